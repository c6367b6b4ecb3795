/** Edges of the FIELDS, of the PEOPLE and of what is set: 'Terms' 1, promises 1 to 6, 15 and 39. */
public final class FieldsAndPeopleEdgesTest {
    private static final int[][] FOLK = {{0, 5, 3, 0}, {1, 4, 5, 18}, {0, 2, 4, 9}, {1, 9, 1, 3}};
    /** look(0 .. 16) of what is as at first. */
    private static final int[] FIRST = {5, 4, 0, 1, 60, 0, 0, 0, 0, 0, 0, 0, 0, 0, 0, 0, 0};

    private static SnowRises withFour() {
        SnowRises x = new SnowRises();
        for (int[] p : FOLK) {
            x.person(p[0], p[1], p[2], p[3]);
        }
        return x;
    }

    private static SnowRises withTwelve() {
        SnowRises x = withFour();
        for (int i = 4; i < 12; i++) {
            x.person(i % 2, i - 3, 9 - i / 2, 8);
        }
        x.sweep(9);
        return x;
    }

    private static void fieldsAre(SnowRises x, int w, int h, int snow) {
        for (int f = -2; f < 66; f++) {
            boolean there = f >= 0 && f < 64 && f % 8 < w && f / 8 < h;
            Edges.due("at(" + f + ", 0) of " + w + " by " + h, x.at(f, 0), there ? snow : -2);
        }
    }

    private static void atFirst() {
        Edges.sentence(1, "A valley of five by four.", () -> fieldsAre(new SnowRises(), 5, 4, 10));
        String[] names = {"W 5", "H 4", "DAY 0", "WIND 1", "STEEP 60", "ODDS 0", "no PEOPLE", "NEXT 0", "THE BOOK empty", "STATE 0",
            "THE LAW empty", "VOWS empty", "WEATHER empty", "WANTS empty", "no STIRS", "nothing to undo", "no FIELD bare"};
        for (int what = 0; what < FIRST.length; what++) {
            int i = what;
            Edges.sentence(1, names[i] + " at first", () -> Edges.due("look(" + i + ")", new SnowRises().look(i), FIRST[i]));
        }
        Edges.sentence(1, "NONE = -1", () -> Edges.due("NONE", SnowRises.NONE, -1));
        Edges.sentence(1, "(none at first)", () -> Edges.due("of(0, 4)", withFour().of(0, 4), -1));
        Edges.sentence(1, "(not at first)", () -> Edges.due("of(0, 5)", withFour().of(0, 5), 0));
        Edges.sentence(14, "fault() of a new object", () -> {
            Edges.due("fault(0)", new SnowRises().fault(0), 0);
            Edges.due("fault(1)", new SnowRises().fault(1), -1);
        });
        Edges.sentence(37, "nothing can be undone at first", () -> Edges.due("undo()", new SnowRises().undo(), false));
        Edges.sentence(38, "there is no image at first", () -> Edges.due("image(false)", new SnowRises().image(false), false));
        Edges.sentence(11, "the TAPE is empty at first", () -> {
            Edges.due("end(1)", new SnowRises().end(1), false);
            Edges.due("feed", new SnowRises().feed(0, 0, 0, 0, 0), 20);
        });
    }

    private static void state() {
        Edges.sentence(2, "STATE is told: what it was.", () -> {
            SnowRises x = new SnowRises();
            Edges.due("state", x.state(Edges.LEAST), 0);
            Edges.due("state", x.state(Edges.MOST), Edges.LEAST);
            Edges.due("state", x.state(-1), Edges.MOST);
            Edges.due("look(9)", x.look(9), -1);
            Edges.due("state", x.state(0), -1);
        });
    }

    private static void sizes() {
        Edges.sentence(3, "W 3 .. 8, H 3 .. 7", () -> {
            for (int w = 3; w <= 8; w++) {
                for (int h = 3; h <= 7; h++) {
                    SnowRises x = new SnowRises();
                    Edges.due("valley(" + w + ", " + h + ")", x.valley(w, h), true);
                    Edges.due("look(0)", x.look(0), w);
                    Edges.due("look(1)", x.look(1), h);
                    fieldsAre(x, w, h, 10);
                }
            }
        });
        int[][] bad = {{2, 4}, {9, 4}, {5, 2}, {5, 8}, {2, 2}, {9, 8}, {0, 4}, {5, 0}, {-3, 4}, {5, -3}, {Edges.LEAST, 4},
            {Edges.MOST, 4}, {5, Edges.LEAST}, {5, Edges.MOST}};
        for (int[] b : bad) {
            Edges.sentence(3, "false, and nothing is done, if they can't be.", () ->
                Edges.refused("valley(" + b[0] + ", " + b[1] + ")", x -> Edges.count(x.valley(b[0], b[1])), 0));
        }
    }

    private static void toldAnew() {
        Edges.sentence(3, "told anew: all is as at first but W, H, STATE", () -> {
            SnowRises x = Edges.rich();
            int state = x.look(9);
            Edges.due("valley(4, 5)", x.valley(4, 5), true);
            for (int what = 2; what < FIRST.length; what++) {
                Edges.due("look(" + what + ")", x.look(what), what == 9 ? state : FIRST[what]);
            }
            fieldsAre(x, 4, 5, 10);
        });
        Edges.sentence(3, "told anew, of the same W and H", () -> {
            SnowRises x = Edges.rich();
            Edges.due("valley(3, 4)", x.valley(3, 4), true);
            Edges.due("look(2)", x.look(2), 0);
            Edges.due("look(6)", x.look(6), 0);
            fieldsAre(x, 3, 4, 10);
        });
        Edges.sentence(3, "told anew: PEOPLE come from 0 on, not WED, no KIN", () -> {
            SnowRises x = withTwelve();
            x.kin(0, 1, true);
            x.vow(0, 1, 0);
            x.valley(5, 4);
            Edges.due("person", x.person(1, 0, 0, 0), 0);
            Edges.due("person", x.person(0, 0, 0, 0), 1);
            Edges.due("of(0, 4)", x.of(0, 4), -1);
            Edges.due("of(0, 5)", x.of(0, 5), 0);
            Edges.due("of(2, 0)", x.of(2, 0), -2);
        });
        Edges.sentence(3, "told anew: no line of any TEXT is left", () -> {
            SnowRises x = Edges.rich();
            x.valley(3, 4);
            x.person(0, 5, 0, 0);
            x.person(1, 5, 0, 0);
            Edges.due("match", x.match(0, 1, false), 9);
            Edges.due("lift", x.lift(0, 1, 0, 9), 16);
            Edges.due("at(0, 1)", x.at(0, 1), 0);
            Edges.due("weather(0)", x.weather(0), 0);
            Edges.due("meets(1)", x.meets(1), -1);
            Edges.due("rounds(0)", x.rounds(0), 0);
            Edges.due("who(0)", x.who(0), 2);
            Edges.due("book(0, 0)", x.book(0, 0), -1);
            Edges.due("undo()", x.undo(), false);
        });
        Edges.sentence(3, "told anew, all but the TAPE", () -> {
            SnowRises x = Edges.rich();
            x.valley(3, 4);
            Edges.due("end(8)", x.end(8), false);
            Edges.due("end(7)", x.end(7), true);
            Edges.due("text(0)", x.text(0), 1);
            Edges.due("at(0, 1)", x.at(0, 1), 3);
        });
        Edges.sentence(3, "told anew, all but fault()", () -> {
            SnowRises x = Edges.rich();
            x.valley(3, 4);
            Edges.due("fault(0)", x.fault(0), 1);
            Edges.due("fault(1)", x.fault(1), 4);
        });
        Edges.sentence(3, "told anew, all but THE IMAGE", () -> {
            SnowRises x = Edges.rich();
            x.valley(8, 7);
            Edges.due("image(false)", x.image(false), true);
            Edges.due("look(0)", x.look(0), 3);
            Edges.due("look(6)", x.look(6), 6);
            Edges.due("look(10)", x.look(10), 3);
        });
    }

    private static void people() {
        int[][] good = {{0, 0, 0, 0}, {1, 0, 0, 0}, {0, 9, 0, 0}, {0, 0, 9, 0}, {0, 0, 0, 4}, {0, 0, 0, 24}, {1, 9, 9, 28}};
        for (int[] g : good) {
            Edges.sentence(4, "SIDE 0, 1, TEMPER 0 .. 9, HOPE 0 .. 9, HOME a FIELD", () -> {
                SnowRises x = new SnowRises();
                Edges.due("person", x.person(g[0], g[1], g[2], g[3]), 0);
                for (int what = 0; what < 4; what++) {
                    Edges.due("of(0, " + what + ")", x.of(0, what), g[what]);
                }
                Edges.due("look(6)", x.look(6), 1);
            });
        }
        int[][] bad = {{-1, 5, 5, 0}, {2, 5, 5, 0}, {Edges.LEAST, 5, 5, 0}, {Edges.MOST, 5, 5, 0}, {0, -1, 5, 0}, {0, 10, 5, 0},
            {0, Edges.LEAST, 5, 0}, {0, Edges.MOST, 5, 0}, {0, 5, -1, 0}, {0, 5, 10, 0}, {0, 5, Edges.LEAST, 0}, {0, 5, Edges.MOST, 0},
            {0, 5, 5, -1}, {0, 5, 5, 3}, {0, 5, 5, 7}, {0, 5, 5, 11}, {0, 5, 5, 32}, {0, 5, 5, 56}, {0, 5, 5, 64},
            {0, 5, 5, Edges.LEAST}, {0, 5, 5, Edges.MOST}};
        for (int[] b : bad) {
            String call = "person(" + b[0] + ", " + b[1] + ", " + b[2] + ", " + b[3] + ")";
            Edges.sentence(4, "NONE if one can't be", () -> Edges.refused(call, x -> x.person(b[0], b[1], b[2], b[3]), -1));
        }
        Edges.sentence(4, "PEOPLE 0 .. 11 as they come", () -> {
            SnowRises x = new SnowRises();
            for (int i = 0; i < 12; i++) {
                Edges.due("person", x.person(i / 6, i % 10, 0, i % 5), i);
                Edges.due("look(6)", x.look(6), i + 1);
            }
            for (int i = 0; i < 12; i++) {
                Edges.due("of(" + i + ", 0)", x.of(i, 0), i / 6);
                Edges.due("of(" + i + ", 1)", x.of(i, 1), i % 10);
                Edges.due("of(" + i + ", 3)", x.of(i, 3), i % 5);
            }
            Edges.due("of(12, 0)", x.of(12, 0), -2);
        });
        Edges.sentence(4, "NONE if .. there are twelve", () ->
            Edges.refused(FieldsAndPeopleEdgesTest::withTwelve, "person", x -> x.person(0, 5, 5, 0), -1));
        Edges.sentence(4, "any number of them of one SIDE", () -> {
            SnowRises x = new SnowRises();
            for (int i = 0; i < 12; i++) {
                Edges.due("person", x.person(1, 0, 0, 0), i);
            }
            Edges.due("vow(0, 1, 0)", x.vow(0, 1, 0), -1);
            Edges.due("best(0)", x.best(0), 0);
        });
    }

    private static void setTo(String words, int what, int who, int v, int look) {
        Edges.sentence(5, words, () -> {
            SnowRises x = Edges.rich();
            Edges.due("set(" + what + ", " + who + ", " + v + ")", x.set(what, who, v), true);
            Edges.due("look(" + look + ")", x.look(look), v);
        });
    }

    private static void sets() {
        for (int v = 0; v <= 3; v++) {
            setTo("WIND 0 .. 3", 0, 0, v, 3);
        }
        setTo("STEEP 1 .. 99", 1, 0, 1, 4);
        setTo("STEEP 1 .. 99", 1, 0, 99, 4);
        setTo("ODDS 0 .. 1000", 2, 0, 0, 5);
        setTo("ODDS 0 .. 1000", 2, 0, 1000, 5);
        for (int who : new int[] {-1, 6, 64, Edges.LEAST, Edges.MOST}) {
            setTo("(who not asked)", 0, who, 3, 3);
            setTo("(who not asked)", 1, who, 99, 4);
            setTo("(who not asked)", 2, who, 7, 5);
        }
        for (int f : new int[] {0, 2, 24, 26, 9}) {
            for (int v : new int[] {0, 99}) {
                Edges.sentence(5, "SNOW of each 0 .. 99", () -> {
                    SnowRises x = Edges.rich();
                    Edges.due("set(3, " + f + ", " + v + ")", x.set(3, f, v), true);
                    Edges.due("at(" + f + ", 0)", x.at(f, 0), v);
                });
            }
        }
        for (int p : new int[] {0, 5}) {
            for (int v : new int[] {0, 9}) {
                Edges.sentence(5, "4 TEMPER, 5 HOPE of PERSON who", () -> {
                    SnowRises x = Edges.rich();
                    Edges.due("set(4, " + p + ", " + v + ")", x.set(4, p, v), true);
                    Edges.due("set(5, " + p + ", " + (9 - v) + ")", x.set(5, p, 9 - v), true);
                    Edges.due("of(" + p + ", 1)", x.of(p, 1), v);
                    Edges.due("of(" + p + ", 2)", x.of(p, 2), 9 - v);
                });
            }
        }
        int[][] bad = {{0, 0, -1}, {0, 0, 4}, {0, 0, Edges.LEAST}, {0, 0, Edges.MOST}, {1, 0, 0}, {1, 0, 100}, {1, 0, -1},
            {1, 0, Edges.LEAST}, {1, 0, Edges.MOST}, {2, 0, -1}, {2, 0, 1001}, {2, 0, Edges.LEAST}, {2, 0, Edges.MOST}, {3, 0, -1},
            {3, 0, 100}, {3, 0, Edges.MOST}, {3, -1, 5}, {3, 3, 5}, {3, 32, 5}, {3, 64, 5}, {3, Edges.LEAST, 5}, {3, Edges.MOST, 5}, {4, 0, -1},
            {4, 0, 10}, {4, 0, Edges.LEAST}, {4, 0, Edges.MOST}, {4, -1, 5}, {4, 6, 5}, {4, Edges.LEAST, 5}, {4, Edges.MOST, 5}, {5, 0, -1},
            {5, 0, 10}, {5, 0, Edges.LEAST}, {5, 0, Edges.MOST}, {5, -1, 5}, {5, 6, 5}, {5, Edges.LEAST, 5}, {5, Edges.MOST, 5}, {-1, 0, 1},
            {6, 0, 1}, {Edges.LEAST, 0, 1}, {Edges.MOST, 0, 1}};
        for (int[] b : bad) {
            String call = "set(" + b[0] + ", " + b[1] + ", " + b[2] + ")";
            Edges.sentence(5, "false if one can't be, or another what.", () ->
                Edges.refused(call, x -> Edges.count(x.set(b[0], b[1], b[2])), 0));
        }
    }

    private static void kin() {
        Edges.sentence(6, "two of them", () -> {
            SnowRises x = withTwelve();
            Edges.due("kin(0, 11)", x.kin(0, 11, true), true);
            Edges.due("of(0, 5)", x.of(0, 5), 2048);
            Edges.due("of(11, 5)", x.of(11, 5), 1);
            Edges.due("kin(11, 10)", x.kin(11, 10, true), true);
            Edges.due("of(11, 5)", x.of(11, 5), 1025);
            Edges.due("kin(11, 0)", x.kin(11, 0, false), true);
            Edges.due("of(0, 5)", x.of(0, 5), 0);
            Edges.due("of(11, 5)", x.of(11, 5), 1024);
        });
        Edges.sentence(6, "KIN of all others", () -> {
            SnowRises x = withTwelve();
            for (int p = 0; p < 12; p++) {
                if (p != 5) {
                    x.kin(p, 5, true);
                }
            }
            Edges.due("of(5, 5)", x.of(5, 5), 4095 - 32);
            Edges.due("of(4, 5)", x.of(4, 5), 32);
        });
        Edges.sentence(6, "told what is so already", () -> {
            SnowRises x = withFour();
            Edges.due("kin(0, 1, false)", x.kin(0, 1, false), true);
            Edges.due("of(0, 5)", x.of(0, 5), 0);
            Edges.due("kin(0, 1, true)", x.kin(0, 1, true), true);
            Edges.due("kin(1, 0, true)", x.kin(1, 0, true), true);
            Edges.due("of(0, 5)", x.of(0, 5), 2);
            Edges.due("kin(1, 0, false)", x.kin(1, 0, false), true);
            Edges.due("of(0, 5)", x.of(0, 5), 0);
            Edges.due("of(1, 5)", x.of(1, 5), 0);
        });
        int[][] bad = {{0, 0}, {5, 5}, {-1, 0}, {0, -1}, {6, 0}, {0, 6}, {6, 6}, {-1, -1}, {Edges.LEAST, 0}, {0, Edges.LEAST}, {Edges.MOST, 0},
            {0, Edges.MOST}, {32, 1}, {1, 32}};
        for (int[] b : bad) {
            for (boolean is : new boolean[] {false, true}) {
                Edges.sentence(6, "false if one can't be (alike).", () ->
                    Edges.refused("kin(" + b[0] + ", " + b[1] + ", " + is + ")", x -> Edges.count(x.kin(b[0], b[1], is)), 0));
            }
        }
        Edges.sentence(6, "false if one can't be: there is nobody", () ->
            Edges.refused(SnowRises::new, "kin(0, 1)", x -> Edges.count(x.kin(0, 1, true)), 0));
    }

    private static void of() {
        Edges.sentence(15, "what 0 SIDE, 1 TEMPER, 2 HOPE, 3 HOME, 4 to whom he is WED (NONE), 5 KIN (a set)", () -> {
            SnowRises x = Edges.rich();
            int[][] want = {{0, 5, 3, 0, -1, 4}, {1, 5, 4, 9, -1, 0}, {0, 2, 0, 26, 3, 1}, {1, 9, 7, 2, 2, 32}, {0, 4, 5, 8, -1, 0},
                {1, 1, 2, 17, -1, 8}};
            for (int p = 0; p < 6; p++) {
                for (int what = 0; what < 6; what++) {
                    Edges.due("of(" + p + ", " + what + ")", x.of(p, what), want[p][what]);
                }
            }
        });
        int[][] bad = {{-1, 0}, {6, 0}, {12, 4}, {Edges.LEAST, 1}, {Edges.MOST, 5}, {0, -1}, {0, 6}, {0, Edges.LEAST}, {0, Edges.MOST}, {-1, 6}};
        for (int[] b : bad) {
            Edges.sentence(15, "NONE - 1 if there is none such, or another what.", () ->
                Edges.refused("of(" + b[0] + ", " + b[1] + ")", x -> x.of(b[0], b[1]), -2));
        }
        Edges.sentence(15, "none such: there is nobody", () -> Edges.due("of(0, 0)", new SnowRises().of(0, 0), -2));
    }

    private static void look() {
        Edges.sentence(39, "What 0 W .. 16 how many FIELDS are bare", () -> {
            SnowRises x = Edges.rich();
            x.state(-77);
            x.sweep(25);
            int bare = 0;
            for (int f = 0; f < 27; f++) {
                bare += f % 8 < 3 && x.at(f, 0) == 0 ? 1 : 0;
            }
            // FOUND 9 of 0 and 1 at 9: 9 less far, of twelve FIELDS: far 0 once, 1 four, 2 five, 3 two times.
            int next = 9 + 4 * 8 + 5 * 7 + 2 * 6;
            int[] want = {3, 4, 2, 2, 12, 300, 6, next, x.look(8), -77, 3, 3, 2, 2, 2, 1, bare};
            for (int what = 0; what < want.length; what++) {
                Edges.due("look(" + what + ")", x.look(what), want[what]);
            }
        });
        for (int what : new int[] {-1, 17, 18, 99, Edges.LEAST, Edges.MOST}) {
            Edges.sentence(39, "NONE - 999999 for another what.", () -> Edges.refused("look(" + what + ")", x -> x.look(what), -1000000));
        }
        for (int state : new int[] {Edges.LEAST, Edges.MOST, -1, -2, -1000000, -999999}) {
            Edges.sentence(39, "(STATE, NEXT as they are.)", () -> {
                SnowRises x = new SnowRises();
                x.state(state);
                Edges.due("look(9)", x.look(9), state);
            });
        }
        Edges.sentence(39, "how many FIELDS are bare: all, one, none", () -> {
            SnowRises x = Edges.withLaw("match 9;lift 99;", 5, 5);
            Edges.due("none", x.look(16), 0);
            x.set(3, 28, 1);
            Edges.due("SNOW 1 is not bare", x.look(16), 0);
            x.set(3, 28, 0);
            Edges.due("one", x.look(16), 1);
            x.vow(0, 1, 0);
            Edges.due("all", x.look(16), 20);
            x.valley(8, 7);
            Edges.due("none", x.look(16), 0);
            for (int f = 0; f < 56; f++) {
                x.set(3, f, 0);
            }
            Edges.due("all of 8 by 7", x.look(16), 56);
        });
    }

    public static void main(String[] args) {
        atFirst();
        state();
        sizes();
        toldAnew();
        people();
        sets();
        kin();
        of();
        look();
        Edges.end();
    }
}
