import java.util.function.Consumer;

/** Edges of UNDO and THE IMAGE: 'Terms' 4, promises 37 and 38. */
public final class UndoAndImageEdgesTest {
    /** What UNDO could touch; few calls, as it is asked often. */
    private static String shown(SnowRises x) {
        StringBuilder s = new StringBuilder();
        for (int what : new int[] {2, 7, 8, 9, 16}) {
            s.append(x.look(what)).append(' ');
        }
        for (int f : new int[] {0, 1, 2, 3, 9, 10, 11, 18, 28}) {
            s.append(x.at(f, 0)).append(' ');
        }
        for (int p = 0; p < x.look(6) && p < 7; p++) {
            s.append(x.of(p, 4)).append(' ');
        }
        int lines = x.look(8);
        for (int i = Math.max(0, lines - 2); i <= lines; i++) {
            for (int what = 0; what < 4; what++) {
                s.append(x.book(i, what)).append(' ');
            }
        }
        return s.toString();
    }

    private static SnowRises valley() {
        SnowRises x = Edges.withLaw("match 9-apart;lift 3;melt 1;", 5, 5, 5, 9, 0, 9, 5);
        Edges.told(x, 1, "on 0 0 and 1 at 0;on 1 0 and 3 at 0;on 1 2 and 3 at 9;");
        Edges.told(x, 2, "for 1 snow 2;for 1 snow 0;");
        x.set(1, 0, 12);
        x.set(2, 0, 700);
        x.state(99);
        return x;
    }

    private static void back(String words, Consumer<SnowRises> ahead, Consumer<SnowRises> act) {
        Edges.sentence(37, words, () -> {
            SnowRises x = valley();
            ahead.accept(x);
            int could = x.look(15);
            String was = shown(x);
            act.accept(x);
            Edges.due("something was done", shown(x).equals(was), false);
            Edges.due("look(15)", x.look(15), Math.min(6, could + 1));
            Edges.due("undo()", x.undo(), true);
            Edges.due("all is as it was: " + shown(x) + " / " + was, shown(x).equals(was), true);
            Edges.due("look(15)", x.look(15), could == 6 ? 5 : could);
        });
    }

    private static void kinds() {
        String words = "the latest VOW, DAY, PARTING, SWEEPING not undone yet goes back (STATE, THE BOOK, too)";
        back(words + ": a RIGHT VOW", x -> { }, x -> x.vow(0, 1, 9));
        back(words + ": a HALF VOW", x -> { }, x -> x.vow(2, 3, 9));
        back(words + ": another VOW", x -> { }, x -> x.vow(5, 4, 9));
        back(words + ": a DAY", x -> { }, x -> x.days(1));
        back(words + ": a DAY with VOID lines", x -> x.days(1), x -> x.days(1));
        back(words + ": a DAY of avalanches", x -> {
            for (int f : new int[] {1, 2, 3, 9, 10, 11}) {
                x.set(3, f, 80);
            }
        }, x -> {
            int state = x.look(9);
            x.days(1);
            Edges.due("there were DRAWS", x.look(9) != state, true);
            Edges.due("and avalanches", x.look(8) > 1, true);
        });
        back(words + ": a PARTING", x -> x.vow(1, 2, 0), x -> x.part(1, 2));
        back(words + ": a SWEEPING", x -> x.vow(1, 2, 0), x -> x.sweep(10));
        back(words + ": a SWEEPING of a bare FIELD", x -> x.sweep(10), x -> x.sweep(10));
        back(words + ": the seventh", x -> x.days(6), x -> x.sweep(11));
        back(words + ": the last of many", x -> x.days(33), x -> x.vow(4, 5, 0));
        Edges.sentence(37, "of days(n) each DAY by itself", () -> {
            SnowRises x = valley();
            String[] was = new String[6];
            for (int i = 0; i < 5; i++) {
                was[i] = shown(x);
                x.days(1);
            }
            for (int i = 0; i < 5; i++) {
                x.undo();
            }
            Edges.due("days(5)", x.days(5), 2);
            for (int i = 4; i >= 0; i--) {
                Edges.due("undo()", x.undo(), true);
                Edges.due("as it was on DAY " + i, shown(x).equals(was[i]), true);
            }
            Edges.due("undo()", x.undo(), false);
        });
        Edges.sentence(37, "a line undone is there no more, and the next one takes its place", () -> {
            SnowRises x = valley();
            x.sweep(0);
            x.sweep(1);
            x.undo();
            Edges.due("look(8)", x.look(8), 1);
            Edges.due("book(1, 2)", x.book(1, 2), -1);
            x.sweep(2);
            Edges.due("book(1, 2)", x.book(1, 2), 2);
            Edges.due("book(0, 2)", x.book(0, 2), 0);
        });
        Edges.sentence(37, "VOWS go on as before behind a DAY undone", () -> {
            SnowRises x = valley();
            SnowRises y = valley();
            x.days(2);
            x.undo();
            x.undo();
            Edges.due("days(4)", x.days(4), y.days(4));
            Edges.due("the same", shown(x).equals(shown(y)), true);
        });
    }

    private static void six() {
        for (int n = 0; n <= 14; n++) {
            int acts = n;
            Edges.sentence(37, "6 are kept", () -> {
                SnowRises x = new SnowRises();
                for (int i = 0; i < acts; i++) {
                    x.sweep(8 * (i / 5) + i % 5);
                    Edges.due("look(15)", x.look(15), Math.min(6, i + 1));
                }
                int first = Math.max(0, acts - 6);
                for (int i = acts - 1; i >= first; i--) {
                    Edges.due("undo()", x.undo(), true);
                    Edges.due("look(15)", x.look(15), i - first);
                    Edges.due("lines", x.look(8), i);
                    Edges.due("bare ones", x.look(16), i);
                    Edges.due("SNOW", x.at(8 * (i / 5) + i % 5, 0), 10);
                }
                Edges.due("undo() of nothing", x.undo(), false);
                Edges.due("nothing is done: look(8)", x.look(8), first);
                Edges.due("nothing is done: look(16)", x.look(16), first);
                Edges.due("look(15)", x.look(15), 0);
            });
        }
        Edges.sentence(37, "not undone yet", () -> {
            SnowRises x = valley();
            x.sweep(0);
            String one = shown(x);
            x.sweep(1);
            x.undo();
            x.vow(1, 2, 0);
            x.undo();
            Edges.due("the first alone is left", shown(x).equals(one), true);
            Edges.due("look(15)", x.look(15), 1);
            x.days(4);
            for (int i = 0; i < 2; i++) {
                x.undo();
            }
            x.days(5);
            Edges.due("look(15)", x.look(15), 6);
            Edges.due("look(2)", x.look(2), 7);
            for (int i = 0; i < 6; i++) {
                Edges.due("undo()", x.undo(), true);
            }
            Edges.due("look(2)", x.look(2), 1);
            Edges.due("undo()", x.undo(), false);
        });
        Edges.sentence(37, "false if there is nothing.", () -> {
            Edges.refused(SnowRises::new, "undo()", x -> Edges.count(x.undo()), 0);
            Edges.refused(() -> {
                SnowRises x = Edges.rich();
                x.kin(0, 1, true);
                return x;
            }, "undo()", x -> Edges.count(x.undo()), 0);
        });
    }

    private static void forgets(String what, Consumer<SnowRises> told) {
        Edges.sentence(37, "whatever else is told .. forgets them: " + what, () -> {
            SnowRises x = Edges.rich();
            x.end(0);
            told.accept(x);
            Edges.due("look(15)", x.look(15), 0);
            Edges.due("undo()", x.undo(), false);
        });
    }

    private static void keeps(String what, Consumer<SnowRises> told) {
        Edges.sentence(37, "whatever else is told but THE LAW, WANTS, STIRS (the taking of THE IMAGE does not): " + what, () -> {
            SnowRises x = Edges.rich();
            x.end(0);
            told.accept(x);
            Edges.due("look(15)", x.look(15), 4);
            for (int i = 0; i < 4; i++) {
                Edges.due("undo()", x.undo(), true);
            }
            Edges.due("undo()", x.undo(), false);
            Edges.due("of(2, 4)", x.of(2, 4), -1);
            Edges.due("DAY", x.look(2), 0);
            Edges.due("at(9, 0)", x.at(9, 0), 50);
        });
    }

    private static void told() {
        forgets("STATE", x -> x.state(7));
        forgets("the same STATE", x -> x.state(x.look(9)));
        forgets("W, H", x -> x.valley(5, 4));
        forgets("the same W, H", x -> x.valley(3, 4));
        forgets("a PERSON", x -> x.person(0, 5, 5, 0));
        forgets("WIND", x -> x.set(0, 0, 1));
        forgets("the same WIND", x -> x.set(0, 0, 2));
        forgets("STEEP", x -> x.set(1, 0, 99));
        forgets("ODDS", x -> x.set(2, 0, 0));
        forgets("SNOW", x -> x.set(3, 0, 99));
        forgets("the same SNOW", x -> x.set(3, 0, x.at(0, 0)));
        forgets("TEMPER", x -> x.set(4, 0, 9));
        forgets("HOPE", x -> x.set(5, 0, 9));
        forgets("KIN", x -> x.kin(0, 1, true));
        forgets("KIN as they are", x -> x.kin(0, 2, true));
        forgets("KIN no more", x -> x.kin(0, 2, false));
        forgets("VOWS", x -> Edges.told(x, 1, "on 0 0 and 1 at 0;"));
        forgets("empty VOWS", x -> x.text(1));
        forgets("WEATHER", x -> Edges.told(x, 2, "for 1 snow 1;"));
        forgets("empty WEATHER", x -> x.text(2));
        forgets("going back to THE IMAGE", x -> x.image(false));
        keeps("nothing", x -> { });
        keeps("THE LAW", x -> Edges.told(x, 0, "melt 5;"));
        keeps("an empty LAW", x -> x.text(0));
        keeps("WANTS", x -> Edges.told(x, 3, "bare 0 on 0 worth 1;"));
        keeps("empty WANTS", x -> x.text(3));
        keeps("a STIR", x -> x.stir(0, 5, true));
        keeps("no STIRS then", x -> x.stir(-1, 0, true));
        keeps("THE IMAGE taken", x -> x.image(true));
        keeps("a TEXT with a FAULT", x -> {
            for (int k = 0; k < 4; k++) {
                Edges.told(x, k, "#");
            }
        });
        keeps("no such TEXT", x -> {
            x.text(-1);
            x.text(4);
        });
        keeps("what can't be", x -> {
            x.valley(2, 2);
            x.person(2, 0, 0, 0);
            x.set(0, 0, 4);
            x.set(6, 0, 0);
            x.kin(0, 0, true);
            x.vow(0, 2, 0);
            x.part(0, 1);
            x.sweep(3);
            x.days(0);
            x.stir(0, 10, true);
        });
        Edges.sentence(37, "THE LAW, WANTS, STIRS stay when one goes back", () -> {
            SnowRises x = valley();
            x.days(1);
            Edges.told(x, 0, "melt 7;");
            Edges.told(x, 3, "bare 0 on 0 worth 1;");
            x.stir(0, 5, true);
            x.undo();
            Edges.due("at(0, 1)", x.at(0, 1), 7);
            Edges.due("look(10)", x.look(10), 1);
            Edges.due("look(13)", x.look(13), 1);
            Edges.due("look(14)", x.look(14), 1);
            Edges.due("look(2)", x.look(2), 0);
        });
        Edges.sentence(37, "what is done behind what forgets can be undone", () -> {
            SnowRises x = valley();
            x.days(3);
            x.set(0, 0, 1);
            x.sweep(0);
            Edges.due("look(15)", x.look(15), 1);
            Edges.due("undo()", x.undo(), true);
            Edges.due("undo()", x.undo(), false);
            Edges.due("look(2)", x.look(2), 3);
        });
    }

    /** A full one: 8 by 7, twelve PEOPLE, all TEXTS, STIRS and THE BOOK full. */
    private static SnowRises full() {
        SnowRises x = new SnowRises();
        x.valley(8, 7);
        x.state(-5);
        for (int i = 0; i < 12; i++) {
            x.person(i % 2, i % 10, 9 - i % 10, 4 * i);
        }
        for (int i = 1; i < 12; i++) {
            x.kin(0, i, true);
            x.stir(i, i % 3, true);
        }
        x.stir(0, 0, true);
        Edges.told(x, 0, "melt 2;".repeat(15) + "match 8;");
        Edges.told(x, 1, "on 3 0 and 1 at 0;".repeat(16));
        Edges.told(x, 2, "for 1 snow 7;".repeat(12));
        Edges.told(x, 3, "bare 0 on 0 worth 9;".repeat(12));
        x.set(0, 0, 0);
        x.set(1, 0, 7);
        x.set(2, 0, 999);
        x.set(3, 55, 77);
        x.vow(10, 11, 0);
        for (int i = 0; i < 20; i++) {
            x.sweep(i % 3);
        }
        return x;
    }

    private static void changeAll(SnowRises x) {
        x.state(1);
        x.days(5);
        x.part(10, 11);
        x.kin(0, 11, false);
        x.set(3, 55, 1);
        x.set(4, 11, 0);
        x.set(5, 11, 0);
        x.stir(-1, 0, true);
        for (int k = 0; k < 4; k++) {
            x.text(k);
        }
        x.set(0, 0, 3);
        x.set(1, 0, 99);
        x.set(2, 0, 0);
        x.sweep(54);
    }

    private static String whole(SnowRises x) {
        StringBuilder s = new StringBuilder(shown(x));
        for (int what : new int[] {0, 1, 3, 4, 5, 6, 10, 11, 12, 13, 14}) {
            s.append(x.look(what)).append(' ');
        }
        for (int p : new int[] {0, 5, 11}) {
            for (int what = 0; what < 6; what++) {
                s.append(x.of(p, what)).append(' ');
            }
        }
        s.append(x.at(55, 0)).append(' ').append(x.at(55, 1)).append(' ').append(x.match(3, 4, true)).append(' ').append(x.weather(5));
        s.append(' ').append(x.book(0, 2)).append(' ').append(x.meets(1)).append(' ').append(x.meets(2)).append(' ').append(x.who(5));
        return s.toString();
    }

    private static void images() {
        Edges.sentence(38, "false if there is none", () -> {
            Edges.refused(SnowRises::new, "image(false)", x -> Edges.count(x.image(false)), 0);
            SnowRises x = valley();
            x.days(2);
            String was = shown(x);
            Edges.due("image(false)", x.image(false), false);
            Edges.due("nothing is done", shown(x).equals(was), true);
            Edges.due("look(15)", x.look(15), 2);
        });
        Edges.sentence(38, "all that is and was told", () -> {
            SnowRises x = full();
            Edges.due("image(true)", x.image(true), true);
            String was = whole(x);
            changeAll(x);
            Edges.due("it is another one", whole(x).equals(was), false);
            Edges.due("image(false)", x.image(false), true);
            Edges.due("as it was when it was taken", whole(x).equals(was), true);
            x.valley(8, 7);
            for (int i = 0; i < 12; i++) {
                x.person(1 - i % 2, 5, 5, 55);
            }
            x.image(false);
            Edges.due("as it was, all PEOPLE told anew between", whole(x).equals(was), true);
        });
        Edges.sentence(38, "gone back to it may be more than once", () -> {
            SnowRises x = Edges.rich();
            x.image(true);
            String was = shown(x);
            for (int i = 0; i < 3; i++) {
                x.sweep(2 * i);
                x.vow(0, 1, 0);
                x.person(0, 1, 1, 1);
                x.set(4, 0, i);
                if (i == 1) {
                    x.valley(8, 7);
                }
                Edges.due("image(false)", x.image(false), true);
                Edges.due("as it was", shown(x).equals(was), true);
                Edges.due("TEMPER", x.of(0, 1), 5);
            }
        });
        Edges.sentence(38, "taken again: as it was when it was taken last", () -> {
            SnowRises x = new SnowRises();
            x.sweep(0);
            x.image(true);
            x.sweep(1);
            x.image(true);
            x.sweep(2);
            x.image(false);
            Edges.due("look(16)", x.look(16), 2);
            x.image(true);
            Edges.due("image(false)", x.image(false), true);
            Edges.due("look(16)", x.look(16), 2);
        });
        Edges.sentence(38, "taken of a new object", () -> {
            SnowRises x = new SnowRises();
            x.image(true);
            x.valley(3, 3);
            x.state(4);
            x.image(false);
            Edges.due("look(0)", x.look(0), 5);
            Edges.due("look(9)", x.look(9), 0);
            Edges.due("at(28, 0)", x.at(28, 0), 10);
        });
        Edges.sentence(38, "but the TAPE", () -> {
            SnowRises x = new SnowRises();
            Edges.feedAll(x, "melt 1;");
            x.image(true);
            Edges.due("the taking leaves the TAPE", x.end(8), false);
            Edges.due("the taking leaves the TAPE", x.end(7), true);
            x.end(0);
            Edges.feedAll(x, "melt 22;");
            x.image(false);
            Edges.due("end(9)", x.end(9), false);
            Edges.due("end(8)", x.end(8), true);
            Edges.due("text(0)", x.text(0), 1);
            Edges.due("at(0, 1)", x.at(0, 1), 22);
        });
        Edges.sentence(38, "but .. fault()", () -> {
            SnowRises x = new SnowRises();
            Edges.told(x, 0, "melt");
            x.image(true);
            Edges.due("the taking leaves fault()", x.fault(1), 4);
            Edges.told(x, 0, "melt 1/0;");
            x.image(false);
            Edges.due("fault(0)", x.fault(0), 2);
            Edges.due("fault(1)", x.fault(1), 7);
            x.text(0);
            x.image(false);
            Edges.due("fault(0)", x.fault(0), 0);
            Edges.due("fault(1)", x.fault(1), -1);
        });
        Edges.sentence(38, "and what can be undone (nothing then)", () -> {
            SnowRises x = valley();
            x.sweep(0);
            x.sweep(1);
            x.image(true);
            Edges.due("the taking leaves it", x.look(15), 2);
            x.sweep(2);
            x.image(false);
            Edges.due("look(15)", x.look(15), 0);
            Edges.due("undo()", x.undo(), false);
            x.sweep(3);
            Edges.due("look(15)", x.look(15), 1);
            x.undo();
            x.image(true);
            x.undo();
            Edges.due("look(16)", x.look(16), 2);
        });
        Edges.sentence(38, "what is undone behind the taking leaves THE IMAGE", () -> {
            SnowRises x = valley();
            x.sweep(0);
            x.image(true);
            x.undo();
            Edges.due("look(16)", x.look(16), 0);
            x.image(false);
            Edges.due("look(16)", x.look(16), 1);
            Edges.due("look(8)", x.look(8), 1);
        });
        Edges.sentence(38, "all goes on from it", () -> {
            SnowRises x = valley();
            SnowRises y = valley();
            x.days(1);
            x.image(true);
            x.valley(8, 7);
            x.image(false);
            y.days(1);
            Edges.due("days(5)", x.days(5), y.days(5));
            Edges.due("as without it", shown(x).equals(shown(y)), true);
        });
        Edges.sentence(38, "a full BOOK of 150 lines", () -> {
            SnowRises x = new SnowRises();
            for (int i = 0; i < 151; i++) {
                x.sweep(i % 5);
            }
            x.image(true);
            x.valley(3, 3);
            Edges.due("look(8)", x.look(8), 0);
            x.image(false);
            Edges.due("look(8)", x.look(8), 150);
            Edges.due("book(149, 2)", x.book(149, 2), 4);
            Edges.due("book(150, 2)", x.book(150, 2), -1);
            x.sweep(28);
            Edges.due("look(8)", x.look(8), 150);
        });
    }

    public static void main(String[] args) {
        kinds();
        six();
        told();
        images();
        Edges.end();
    }
}
