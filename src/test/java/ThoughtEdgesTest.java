import java.util.function.Consumer;

/** Edges of what is thought: 'Terms' 4, promises 21 to 36. */
public final class ThoughtEdgesTest {
    /** A valley of that size without SNOW, with PEOPLE of SIDES 0, 1, 0, 1 and so on. */
    private static SnowRises bare(int w, int h, int... tempers) {
        SnowRises x = new SnowRises();
        x.valley(w, h);
        for (int i = 0; i < tempers.length; i++) {
            x.person(i % 2, tempers[i], 0, 0);
        }
        for (int f = 0; f < 8 * h; f++) {
            x.set(3, f, 0);
        }
        return x;
    }

    private static void setSteep(SnowRises x, int... fields) {
        for (int f : fields) {
            x.set(3, f, 60);
        }
    }

    private static void nothingStays() {
        String words = "4. IN THOUGHT (nothing of it stays; no DRAWS: no avalanches).";
        leaves(words, "lies", x -> x.lies(9, 60));
        leaves(words, "meets(0)", x -> x.meets(0));
        leaves(words, "meets(1)", x -> x.meets(1));
        leaves(words, "meets(2)", x -> x.meets(2));
        leaves(words, "stable", x -> x.stable(0));
        leaves(words, "best", x -> x.best(10));
        leaves(words, "bares", x -> x.bares(2, 0));
        leaves(words, "who", x -> x.who(0));
        leaves(words, "ask", x -> x.ask(0));
        leaves(words, "fans", x -> x.fans(1, 1));
        leaves(words, "safe", x -> x.safe(0, 18));
        leaves(words, "cut", x -> x.cut(0, 18));
        leaves(words, "rounds", x -> x.rounds(0));
        leaves(words, "comes", x -> x.comes(2, 3));
        leaves(words, "asks", x -> x.asks());
        leaves(words, "tribe", x -> x.tribe(3));
        leaves(words, "hopes", x -> x.hopes(1));
    }

    private static void leaves(String words, String call, Consumer<SnowRises> asked) {
        Edges.sentence(21, words + " " + call, () -> {
            SnowRises x = Edges.rich();
            asked.accept(x);
            asked.accept(x);
            Edges.changedNothing(Edges::rich, call, x);
        });
    }

    private static void lies() {
        for (int n : new int[] {0, 1, 2, 3, 8, 59, 60}) {
            Edges.sentence(21, "LIES of a FIELD at the end of n (0 .. 60) DAYS.", () -> {
                SnowRises x = Edges.rich();
                SnowRises y = Edges.rich();
                y.set(2, 0, 0);
                if (n > 0) {
                    y.days(n);
                }
                for (int f : new int[] {0, 1, 9, 26}) {
                    Edges.due("lies(" + f + ", " + n + ")", x.lies(f, n), y.at(f, 0));
                }
            });
        }
        Edges.sentence(21, "no DRAWS: no avalanches", () -> {
            SnowRises x = new SnowRises();
            x.set(1, 0, 1);
            x.set(2, 0, 1000);
            x.state(5);
            x.set(3, 0, 99);
            Edges.due("lies(0, 1)", x.lies(0, 1), 99);
            Edges.due("lies(8, 60)", x.lies(8, 60), 10);
            Edges.due("STATE", x.look(9), 5);
            Edges.due("ODDS", x.look(5), 1000);
            x.days(1);
            Edges.due("not in thought they are", x.at(0, 0), 50);
        });
        Edges.sentence(21, "a VOW of such a DAY is in it, VOID ones are not", () -> {
            SnowRises x = Edges.withLaw("match 9;lift 4;", 5, 5, 5, 5);
            Edges.told(x, 1, "on 0 0 and 1 at 0;on 0 0 and 3 at 0;on 2 2 and 3 at 0;");
            int[] want = {10, 6, 6, 2, 2};
            for (int n = 0; n < want.length; n++) {
                Edges.due("lies(28, " + n + ")", x.lies(28, n), want[n]);
            }
            x.vow(2, 1, 0);
            Edges.due("0 and 3 can now, 2 and 3 can't", x.lies(28, 4), 2);
        });
        int[][] bad = {{0, -1}, {0, 61}, {0, Edges.LEAST}, {0, Edges.MOST}, {-1, 1}, {3, 1}, {7, 0}, {32, 1}, {64, 1}, {Edges.LEAST, 1},
            {Edges.MOST, 1}};
        for (int[] b : bad) {
            Edges.sentence(21, "NONE if one can't be.", () ->
                Edges.refused("lies(" + b[0] + ", " + b[1] + ")", x -> x.lies(b[0], b[1]), -1));
        }
    }

    private static void meets() {
        Edges.sentence(22, "no WANTS, no VOWS", () -> {
            SnowRises x = new SnowRises();
            Edges.due("meets(0)", x.meets(0), 0);
            Edges.due("meets(1)", x.meets(1), -1);
            Edges.due("meets(2)", x.meets(2), -1);
        });
        Edges.sentence(22, "of WANTS of DAYS from this one on", () -> {
            SnowRises x = bare(3, 3);
            Edges.told(x, 3, "bare 0 on 0 worth 1;bare 0 on 1 worth 2;bare 0 on 2 worth 4;bare 0 on 999 worth 8;");
            int[] want = {15, 14, 12, 8};
            for (int day = 0; day < 4; day++) {
                Edges.due("meets(0) on DAY " + day, x.meets(0), want[day]);
                Edges.due("meets(1)", x.meets(1), -1);
                x.days(1);
            }
        });
        Edges.sentence(22, "the first (by DAY, then number) that is not: of DAYS from this one on", () -> {
            SnowRises x = new SnowRises();
            Edges.told(x, 3, "bare 0 on 2 worth 4;bare 0 on 1 worth 2;bare 1 on 1 worth 3;bare 0 on 0 worth 1;");
            int[] want = {3, 1, 0, -1};
            for (int day = 0; day < 4; day++) {
                Edges.due("meets(1) on DAY " + day, x.meets(1), want[day]);
                Edges.due("meets(0)", x.meets(0), 0);
                x.days(1);
            }
        });
        Edges.sentence(22, "(SNOW 0 at the end of that DAY, behind (d))", () -> {
            SnowRises x = Edges.withLaw("melt 5;");
            Edges.told(x, 3, "bare 0 on 0 worth 1;bare 0 on 1 worth 2;bare 1 on 1 worth 4;bare 2 on 1 worth 8;");
            x.set(3, 1, 11);
            x.set(3, 2, 9);
            // 10 is 5 at the end of DAY 0, 0 at the end of DAY 1; 11 is 1 then.
            Edges.due("meets(0)", x.meets(0), 2 + 8);
            Edges.due("meets(1)", x.meets(1), 0);
            x.days(1);
            Edges.due("meets(1)", x.meets(1), 2);
        });
        Edges.sentence(22, "bare now, but not at the end of the DAY", () -> {
            SnowRises x = bare(3, 3);
            Edges.told(x, 2, "for 1 snow 1;for 1 snow 0;");
            Edges.told(x, 3, "bare 0 on 0 worth 1;");
            Edges.due("meets(0)", x.meets(0), 0);
            Edges.due("meets(1)", x.meets(1), 0);
            x.sweep(0);
            Edges.due("meets(1)", x.meets(1), 0);
        });
        Edges.sentence(22, "a VOW of that DAY bares", () -> {
            SnowRises x = Edges.withLaw("match 9;lift 99;", 5, 5);
            Edges.told(x, 1, "on 3 0 and 1 at 0;");
            Edges.told(x, 3, "bare 0 on 3 worth 9;bare 0 on 2 worth 7;");
            Edges.due("meets(0)", x.meets(0), 9);
            Edges.due("meets(1)", x.meets(1), 1);
        });
        Edges.sentence(22, "no DRAWS: no avalanches", () -> {
            SnowRises x = Edges.withLaw("melt 5;");
            x.set(1, 0, 1);
            x.set(2, 0, 1000);
            Edges.told(x, 3, "bare 0 on 0 worth 9;");
            Edges.due("10 less 5, not 5 less 5", x.meets(0), 0);
            x.days(1);
            Edges.due("by an avalanche it is", x.at(0, 0), 0);
        });
        Edges.sentence(22, "DAY 999, the last of WANTS", () -> {
            SnowRises x = Edges.withLaw("melt 1 when day=999;");
            x.set(3, 0, 1);
            Edges.told(x, 3, "bare 0 on 998 worth 50;bare 0 on 999 worth 9;");
            Edges.due("meets(0)", x.meets(0), 9);
            Edges.due("meets(1)", x.meets(1), 0);
            for (int i = 0; i < 17; i++) {
                x.days(i < 16 ? 60 : 39);
            }
            Edges.due("DAY", x.look(2), 999);
            Edges.due("meets(0)", x.meets(0), 9);
            Edges.due("meets(1)", x.meets(1), -1);
            x.days(1);
            Edges.due("meets(0)", x.meets(0), 0);
        });
        for (int what : new int[] {-1, 3, 10, Edges.LEAST, Edges.MOST}) {
            Edges.sentence(22, "NONE for another what.", () -> Edges.refused("meets(" + what + ")", x -> x.meets(what), -1));
        }
    }

    private static void firstVoid() {
        Edges.sentence(22, "FIRST VOID: of lines of VOWS of DAYS from this one on: the first (by DAY, then number)", () -> {
            SnowRises x = Edges.withTempers(5, 5, 5, 5, 5, 5);
            Edges.told(x, 1, "on 3 0 and 5 at 0;on 2 0 and 3 at 0;on 2 1 and 2 at 0;on 1 0 and 1 at 0;on 4 4 and 5 at 0;");
            Edges.due("DAY 0", x.meets(2), 1);
            x.days(2);
            Edges.due("DAY 2", x.meets(2), 1);
            x.days(1);
            Edges.due("DAY 3", x.meets(2), 0);
            x.days(1);
            Edges.due("DAY 4", x.meets(2), -1);
        });
        Edges.sentence(22, "that will be VOID: by lines ahead of it on its DAY, of earlier DAYS, or as one is WED now", () -> {
            SnowRises x = Edges.withTempers(5, 5, 5, 5);
            Edges.told(x, 1, "on 9 0 and 1 at 0;");
            Edges.due("none", x.meets(2), -1);
            x.vow(0, 3, 0);
            Edges.due("0 is WED", x.meets(2), 0);
            x.part(0, 3);
            Edges.due("none", x.meets(2), -1);
            x.vow(2, 1, 0);
            Edges.due("1 is WED", x.meets(2), 0);
            x.part(1, 2);
            Edges.told(x, 1, "on 9 0 and 1 at 0;on 9 2 and 1 at 0;");
            Edges.due("the second", x.meets(2), 1);
            Edges.told(x, 1, "on 9 0 and 1 at 0;on 8 2 and 1 at 0;");
            Edges.due("the first", x.meets(2), 0);
            Edges.told(x, 1, "on 9 0 and 1 at 0;on 9 0 and 1 at 0;");
            Edges.due("the same two again", x.meets(2), 1);
        });
        Edges.sentence(22, "one that is VOID makes nobody WED", () -> {
            SnowRises x = Edges.withTempers(5, 5, 5, 5);
            x.vow(0, 3, 0);
            x.days(1);
            Edges.told(x, 1, "on 0 0 and 1 at 0;on 5 2 and 1 at 0;");
            Edges.due("the first is of a DAY gone by", x.meets(2), -1);
            x.undo();
            Edges.due("undone can't be behind told VOWS", x.look(2), 1);
            Edges.told(x, 1, "on 5 0 and 1 at 0;on 5 2 and 1 at 0;");
            Edges.due("0 is WED: 1 is not by that", x.meets(2), 0);
            x.days(4);
            Edges.due("days(1)", x.days(1), 1);
            Edges.due("of(1, 4)", x.of(1, 4), 2);
        });
        Edges.sentence(22, "each one of the two can make it VOID, and nobody beside them", () -> {
            for (int p = 0; p < 12; p++) {
                for (int wed = 0; wed < 12; wed++) {
                    SnowRises x = Edges.withTempers(5, 5, 5, 5, 5, 5, 5, 5, 5, 5, 5, 5);
                    // p and the one across from him in the line; wed is WED to one who is in no line.
                    int q = (p + 5) % 12;
                    int with = (wed + 3) % 12;
                    Edges.told(x, 1, "on 9 " + p + " and " + q + " at 0;");
                    x.vow(wed, with, 0);
                    Edges.due("VOID", x.meets(2), p == wed || q == wed || p == with || q == with ? 0 : -1);
                }
            }
        });
        Edges.sentence(22, "a line of DAY 999", () -> {
            SnowRises x = Edges.withTempers(5, 5);
            Edges.told(x, 1, "on 999 0 and 1 at 0;on 998 0 and 1 at 0;");
            Edges.due("meets(2)", x.meets(2), 0);
        });
    }

    private static void stableIs(SnowRises x, int... want) {
        for (int p = 0; p < want.length; p++) {
            Edges.due("stable(" + p + ")", x.stable(p), want[p]);
        }
    }

    /** PEOPLE by SIDE, TEMPER and HOPE. */
    private static SnowRises people(String law, int[]... folk) {
        SnowRises x = new SnowRises();
        for (int[] p : folk) {
            x.person(p[0], p[1], p[2], 0);
        }
        Edges.told(x, 0, law);
        return x;
    }

    private static void stable() {
        Edges.sentence(23, "(the greatest first", () ->
            stableIs(people("match wish;", new int[] {0, 0, 1}, new int[] {1, 0, 1}, new int[] {1, 0, 9}), 2, -1, 0));
        Edges.sentence(23, "of several the least PERSON", () -> {
            stableIs(people("match 5;", new int[] {0, 0, 0}, new int[] {1, 0, 0}, new int[] {1, 0, 0}), 1, 0, -1);
            stableIs(people("match 5;", new int[] {1, 0, 0}, new int[] {1, 0, 0}, new int[] {0, 0, 0}), 2, -1, 0);
        });
        Edges.sentence(23, "0 not at all)", () -> {
            int[][] two = {{0, 0, 3}, {1, 0, 5}};
            stableIs(people("match 1;", two), 1, 0);
            stableIs(people("match 0;", two), -1, -1);
            stableIs(people("match 0 when hope=3;match 9;", two), -1, -1);
            stableIs(people("match 1 when hope=3;match 9;", two), 1, 0);
        });
        Edges.sentence(23, "0: none of them)", () -> {
            int[][] two = {{0, 0, 3}, {1, 0, 5}};
            stableIs(people("match 0 when hope=5;match 9;", two), -1, -1);
            stableIs(people("match 1 when hope=5;match 9;", two), 1, 0);
            // 1 keeps none of them; the other one asks on: 2.
            int[][] three = {{0, 0, 3}, {1, 0, 5}, {1, 0, 4}};
            stableIs(people("match 0 when hope=5;match wish;", three), 2, -1, 0);
        });
        Edges.sentence(23, "who is asked keeps the one for whom the own match is greatest", () -> {
            stableIs(people("match 9 when other=0;match other;", new int[] {0, 3, 0}, new int[] {0, 4, 0}, new int[] {1, 0, 0}), -1, 2, 1);
            stableIs(people("match 9 when other=0;match other;", new int[] {0, 4, 0}, new int[] {0, 3, 0}, new int[] {1, 0, 0}), 2, -1, 0);
        });
        Edges.sentence(23, "(of several the least PERSON", () -> {
            stableIs(people("match 5;", new int[] {0, 0, 0}, new int[] {0, 0, 0}, new int[] {1, 0, 0}), 2, -1, 0);
            // The lesser one comes later to the one who both have at last asked.
            int[][] four = {{0, 1, 0}, {0, 2, 0}, {1, 5, 0}, {1, 6, 0}};
            stableIs(people("match 9 when temper=1 and other=6;match 8 when temper=1;match 9 when temper=2 and other=5;match 9 when temper=6 and other=2;"
                + "match 5 when temper=6;match 0 when temper=2;match 7;", four), 3, 2, 1, 0);
            stableIs(people("match 9 when temper=1 and other=6;match 8 when temper=1;match 9 when temper=2 and other=5;match 0 when temper=6;"
                + "match 0 when temper=2;match 7;", four), 2, -1, 0, -1);
        });
        Edges.sentence(23, "the other one asks on", () -> {
            int[][] six = {{0, 1, 0}, {0, 2, 0}, {0, 3, 0}, {1, 0, 9}, {1, 0, 8}, {1, 0, 7}};
            stableIs(people("match wish when hope=0;match other;", six), 5, 4, 3, 2, 1, 0);
        });
        Edges.sentence(23, "nobody, or there is none such (WED, too)", () -> {
            SnowRises x = people("match 5;", new int[] {0, 0, 0}, new int[] {0, 0, 0}, new int[] {1, 0, 0}, new int[] {1, 0, 0});
            stableIs(x, 2, 3, 0, 1);
            x.vow(0, 2, 0);
            stableIs(x, -1, 3, -1, 1, -1);
            x.vow(1, 3, 0);
            stableIs(x, -1, -1, -1, -1);
            stableIs(new SnowRises(), -1);
            stableIs(people("match 9;", new int[] {0, 0, 0}), -1);
            stableIs(people("match 9;", new int[] {1, 0, 0}, new int[] {1, 0, 0}), -1, -1);
        });
        Edges.sentence(23, "of all who are not WED: who was asked or asked ahead of his VOW is out", () -> {
            int[][] six = {{0, 1, 0}, {1, 1, 0}, {0, 2, 0}, {1, 2, 0}, {0, 9, 0}, {1, 9, 0}};
            SnowRises x = people("match other;", six);
            stableIs(x, 1, 0, 3, 2, 5, 4);
            x.vow(4, 1, 0);
            stableIs(x, 3, -1, 5, 0, -1, 2);
            x.part(4, 1);
            stableIs(x, 1, 0, 3, 2, 5, 4);
            x.vow(5, 0, 0);
            stableIs(x, -1, 2, 1, 4, 3, -1);
        });
        Edges.sentence(23, "six and six", () -> {
            SnowRises x = Edges.withLaw("match 5;", 0, 0, 0, 0, 0, 0, 0, 0, 0, 0, 0, 0);
            stableIs(x, 1, 0, 3, 2, 5, 4, 7, 6, 9, 8, 11, 10);
        });
        Edges.sentence(23, "one and eleven", () -> {
            SnowRises x = new SnowRises();
            for (int i = 0; i < 11; i++) {
                x.person(1, i % 9, 0, 0);
            }
            x.person(0, 8, 0, 0);
            stableIs(x, -1, -1, -1, -1, -1, -1, -1, -1, 11, -1, -1, 8);
        });
        for (int p : new int[] {-1, 6, 12, 32, Edges.LEAST, Edges.MOST}) {
            Edges.sentence(23, "NONE if .. there is none such", () -> Edges.refused("stable(" + p + ")", x -> x.stable(p), -1));
        }
    }

    private static void bestIs(SnowRises x, int sum, int... want) {
        for (int p = 0; p < want.length; p++) {
            Edges.due("best(" + (10 + p) + ")", x.best(10 + p), want[p]);
        }
        Edges.due("best(0)", x.best(0), sum);
        for (int p = 0; p < want.length; p++) {
            // What was thought of ahead of it is no matter.
            x.stable(p);
            Edges.due("best(" + (10 + p) + ") behind stable", x.best(10 + p), want[p]);
        }
    }

    private static void best() {
        Edges.sentence(24, "the greatest sum of FOUND", () -> {
            // 9 and 0, or 8 and 8 by the crosswise couples.
            bestIs(Edges.withLaw("match 9 when temper=1 and other=1;match 0 when temper=2 and other=2;match 8;", 1, 1, 2, 2), 16, 3, 2, 1, 0);
            bestIs(Edges.withLaw("match 9 when temper=1 and other=1;match 0 when temper=2 and other=2;match 4;", 1, 1, 2, 2), 9, 1, 0, 3, 2);
        });
        Edges.sentence(24, "of several ways the first (by those of SIDE 0: the lesser one", () -> {
            bestIs(Edges.withLaw("match 5;", 0, 0, 0, 0, 0, 0), 15, 1, 0, 3, 2, 5, 4);
            bestIs(Edges.withLaw("match 5;", 0, 0, 0, 0, 0), 10, 1, 0, 3, 2, -1);
        });
        Edges.sentence(24, "nobody last)", () -> {
            SnowRises x = people("match 5;", new int[] {1, 0, 0}, new int[] {0, 0, 0}, new int[] {0, 0, 0});
            bestIs(x, 5, 1, 0, -1);
            SnowRises y = people("match 5;", new int[] {0, 0, 0}, new int[] {1, 0, 0}, new int[] {1, 0, 0});
            bestIs(y, 5, 1, 0, -1);
        });
        Edges.sentence(24, "each one once at most", () -> {
            SnowRises x = Edges.withLaw("match 9 when temper=1 or other=1;match 2;", 0, 1, 0, 2, 0, 3);
            bestIs(x, 13, 1, 0, 3, 2, 5, 4);
        });
        Edges.sentence(24, "couples .. not WED", () -> {
            SnowRises x = Edges.withTempers(5, 5, 5, 5);
            bestIs(x, 18, 1, 0, 3, 2);
            x.vow(0, 3, 0);
            bestIs(x, 9, -1, 2, 1, -1);
            x.vow(1, 2, 0);
            bestIs(x, 0, -1, -1, -1, -1);
            x.part(0, 3);
            bestIs(x, 9, 3, -1, -1, 0);
            int[][] six = {{0, 1, 0}, {1, 1, 0}, {0, 2, 0}, {1, 2, 0}, {0, 9, 0}, {1, 9, 0}};
            SnowRises y = people("match temper;", six);
            bestIs(y, 12, 1, 0, 3, 2, 5, 4);
            y.vow(4, 1, 0);
            bestIs(y, 3, 3, -1, 5, 0, -1, 2);
        });
        Edges.sentence(24, "nobody, of one SIDE alone", () -> {
            bestIs(new SnowRises(), 0, -1);
            bestIs(people("", new int[] {0, 5, 5}, new int[] {0, 5, 5}), 0, -1, -1);
            bestIs(people("", new int[] {1, 5, 5}, new int[] {1, 5, 5}), 0, -1, -1);
        });
        Edges.sentence(24, "six and six, one and eleven", () -> {
            bestIs(Edges.withTempers(5, 5, 5, 5, 5, 5, 5, 5, 5, 5, 5, 5), 54, 1, 0, 3, 2, 5, 4, 7, 6, 9, 8, 11, 10);
            SnowRises x = new SnowRises();
            for (int i = 0; i < 12; i++) {
                x.person(i == 11 ? 1 : 0, i % 10, 0, 0);
            }
            bestIs(x, 9, -1, 11, -1, -1, -1, -1, -1, -1, -1, -1, -1, 1);
        });
        for (int what : new int[] {-1, 1, 2, 9, 16, 21, 22, 42, Edges.LEAST, Edges.MOST}) {
            Edges.sentence(24, "NONE for another what.", () -> Edges.refused("best(" + what + ")", x -> x.best(what), -1));
        }
    }

    private static void baresBy(SnowRises x, int field, int... want) {
        for (int what = 0; what < 3; what++) {
            Edges.due("bares(" + field + ", " + what + ")", x.bares(field, what), want[what]);
        }
    }

    private static void bares() {
        Edges.sentence(25, "RIGHT ones alone", () -> {
            baresBy(Edges.withLaw("match 6;lift 99;", 5, 5), 9, 0, 1, 0);
            baresBy(Edges.withLaw("match 5;lift 99;", 5, 5), 9, -1, -1, -1);
        });
        Edges.sentence(25, "by which SNOW there would be 0", () -> {
            SnowRises x = Edges.withLaw("match 6;lift 5;", 5, 5);
            x.set(3, 9, 5);
            baresBy(x, 9, 0, 1, 0);
            x.set(3, 9, 6);
            baresBy(x, 9, -1, -1, -1);
            x.set(3, 9, 4);
            baresBy(x, 9, 0, 1, 0);
        });
        Edges.sentence(25, "the first .. FIELD by FIELD", () -> {
            SnowRises x = Edges.withLaw("match 6;lift 10 when far=0;lift 10 when far=7;lift 9;", 5, 5);
            baresBy(x, 0, 0, 1, 0);
            baresBy(x, 28, 0, 1, 0);
            baresBy(x, 10, 0, 1, 10);
            baresBy(x, 4, 0, 1, 4);
            baresBy(x, 24, 0, 1, 4);
            Edges.told(x, 0, "match 6;lift 10 when far=1;lift 9;");
            baresBy(x, 10, 0, 1, 2);
            baresBy(x, 28, 0, 1, 20);
            baresBy(x, 0, 0, 1, 1);
            Edges.told(x, 0, "match 6;lift 10 when far>7;lift 9;");
            baresBy(x, 0, -1, -1, -1);
        });
        Edges.sentence(25, "the last FIELD of 8 by 7 alone", () -> {
            SnowRises x = new SnowRises();
            x.valley(8, 7);
            x.person(0, 5, 5, 0);
            x.person(1, 5, 5, 0);
            Edges.told(x, 0, "lift 10 when far=13;lift 9;");
            baresBy(x, 0, 0, 1, 55);
            baresBy(x, 55, 0, 1, 0);
            baresBy(x, 7, 0, 1, 48);
            baresBy(x, 48, 0, 1, 7);
        });
        Edges.sentence(25, "the first couple (PERSON of SIDE 0, then of SIDE 1", () -> {
            // RIGHT are 1 and 4, 3 and 2, 3 and 4; 0, 2 and 4 are of SIDE 1.
            SnowRises x = people("match 6 when apart<2;match 5;lift 99;", new int[] {1, 9, 0}, new int[] {0, 4, 0}, new int[] {1, 2, 0},
                new int[] {0, 3, 0}, new int[] {1, 3, 0});
            baresBy(x, 9, 1, 4, 0);
            x.set(4, 1, 9);
            baresBy(x, 9, 1, 0, 0);
            x.set(4, 1, 6);
            baresBy(x, 9, 3, 2, 0);
            x.set(4, 2, 0);
            baresBy(x, 9, 3, 4, 0);
        });
        Edges.sentence(25, "neither WED)", () -> {
            SnowRises x = Edges.withLaw("match 6;lift 99;", 5, 5, 5, 5);
            baresBy(x, 9, 0, 1, 0);
            x.vow(0, 3, 0);
            x.set(3, 9, 7);
            baresBy(x, 9, 2, 1, 0);
            x.vow(2, 1, 0);
            x.set(3, 9, 7);
            baresBy(x, 9, -1, -1, -1);
        });
        Edges.sentence(25, "couple by couple, FIELD by FIELD", () -> {
            SnowRises x = Edges.withLaw("match 6;lift 99 when apart=2;lift 99 when apart=0 and far=3;lift 0;", 5, 5, 5, 7);
            baresBy(x, 0, 0, 1, 3);
            baresBy(x, 28, 0, 1, 4);
            x.set(4, 1, 6);
            baresBy(x, 28, 0, 3, 0);
        });
        Edges.sentence(25, "NONE if none: there are no couples", () -> {
            baresBy(new SnowRises(), 0, -1, -1, -1);
            baresBy(Edges.withTempers(5), 0, -1, -1, -1);
        });
        Edges.sentence(25, "NONE if .. another what", () -> {
            SnowRises x = Edges.withTempers(5, 5);
            for (int what : new int[] {-1, 3, 4, Edges.LEAST, Edges.MOST}) {
                baresBy(x, 28, 0, 1, 0);
                Edges.due("bares(28, " + what + ")", x.bares(28, what), -1);
            }
        });
        int[][] bad = {{-1, 0}, {3, 0}, {7, 1}, {32, 2}, {64, 0}, {Edges.LEAST, 0}, {Edges.MOST, 0}, {2, -1}, {2, 3}, {2, Edges.LEAST},
            {2, Edges.MOST}};
        for (int[] b : bad) {
            Edges.sentence(25, "there is no such FIELD, or another what.", () ->
                Edges.refused("bares(" + b[0] + ", " + b[1] + ")", x -> x.bares(b[0], b[1]), -1));
        }
    }

    private static void stirs() {
        Edges.sentence(26, "STIRS, up to 12", () -> {
            SnowRises x = Edges.withTempers(5, 5);
            for (int i = 1; i <= 12; i++) {
                Edges.due("stir", x.stir(i % 2, i % 10, i % 2 == 0), i);
                Edges.due("look(14)", x.look(14), i);
            }
            Edges.due("stir", x.stir(0, 9, true), -1);
            Edges.due("look(14)", x.look(14), 12);
            Edges.due("none are then", x.stir(-1, 0, true), 0);
            Edges.due("look(14)", x.look(14), 0);
            Edges.due("stir", x.stir(0, 9, true), 1);
        });
        Edges.sentence(26, "the twelfth counts, a thirteenth does not", () -> {
            SnowRises x = Edges.withTempers(5, 5);
            for (int i = 0; i < 11; i++) {
                x.stir(0, 0, true);
            }
            Edges.due("who(0)", x.who(0), 2);
            SnowRises y = Edges.withTempers(5, 5);
            for (int i = 0; i < 12; i++) {
                y.stir(0, i == 11 ? 8 : 0, i < 11);
            }
            Edges.due("who(0) by the twelfth", y.who(0), 0);
            x.stir(0, 9, true);
            Edges.due("a thirteenth", x.stir(0, 3, false), -1);
            Edges.due("who(0) without it", x.who(0), 2);
        });
        Edges.sentence(26, "or there are twelve.", () ->
            Edges.refused(() -> {
                SnowRises x = Edges.rich();
                for (int i = 0; i < 10; i++) {
                    x.stir(0, 0, true);
                }
                return x;
            }, "stir", x -> x.stir(0, 9, false), -1));
        for (int v : new int[] {0, 9}) {
            Edges.sentence(26, "(v 0 .. 9)", () -> {
                SnowRises x = Edges.rich();
                Edges.due("stir(5, " + v + ")", x.stir(5, v, false), 3);
                Edges.due("stir(0, " + v + ")", x.stir(0, v, true), 4);
            });
        }
        int[][] bad = {{0, -1}, {0, 10}, {0, Edges.LEAST}, {0, Edges.MOST}, {-2, 5}, {6, 5}, {12, 5}, {Edges.LEAST, 5}, {Edges.MOST, 5}};
        for (int[] b : bad) {
            for (boolean least : new boolean[] {false, true}) {
                Edges.sentence(26, "NONE if one can't be", () ->
                    Edges.refused("stir(" + b[0] + ", " + b[1] + ", " + least + ")", x -> x.stir(b[0], b[1], least), -1));
            }
        }
        Edges.sentence(26, "(person NONE: none are then)", () -> {
            SnowRises x = new SnowRises();
            Edges.due("of none", x.stir(-1, 5, false), 0);
            SnowRises y = Edges.rich();
            Edges.due("stir(NONE)", y.stir(-1, 5, true), 0);
            Edges.due("who(0): all of the other SIDE", y.who(0), 2 + 8 + 32);
            Edges.due("what can be undone stays", y.look(15), 4);
        });
    }

    private static void who() {
        // FOUND of 0 with 1, 3, 5, 7, 9, 11: 4, 5, 6, 7, 8, 9.
        int[] tempers = {0, 5, 9, 4, 9, 3, 9, 2, 9, 1, 9, 0};
        int[] others = {1, 3, 5, 7, 9, 11};
        for (int v = 0; v <= 9; v++) {
            int found = v;
            Edges.sentence(27, "FOUND was v", () -> {
                SnowRises x = Edges.withTempers(tempers);
                x.stir(0, found, false);
                Edges.due("who(0) by " + found, x.who(0), found >= 4 ? 1 << others[found - 4] : 0);
            });
            Edges.sentence(27, "or at least v", () -> {
                SnowRises x = Edges.withTempers(tempers);
                x.stir(0, found, true);
                int set = 0;
                for (int i = 0; i < 6; i++) {
                    set |= 4 + i >= found ? 1 << others[i] : 0;
                }
                Edges.due("who(0) by at least " + found, x.who(0), set);
            });
        }
        Edges.sentence(27, "PEOPLE of the other SIDE by whom all STIRS of a can be", () -> {
            SnowRises x = Edges.withTempers(tempers);
            Edges.due("who(0) without STIRS", x.who(0), 2 + 8 + 32 + 128 + 512 + 2048);
            Edges.due("who(11) without STIRS", x.who(11), 1 + 4 + 16 + 64 + 256 + 1024);
            x.stir(2, 0, false);
            Edges.due("who(0): STIRS of another one", x.who(0), 2 + 8 + 32 + 128 + 512 + 2048);
            x.stir(0, 5, true);
            x.stir(0, 8, true);
            x.stir(0, 6, true);
            Edges.due("who(0)", x.who(0), 512 + 2048);
            x.stir(0, 9, false);
            Edges.due("who(0)", x.who(0), 2048);
            x.vow(0, 11, 0);
            Edges.due("who(0): WED", x.who(0), 2048);
            x.stir(0, 8, false);
            Edges.due("who(0): nobody", x.who(0), 0);
        });
        Edges.sentence(27, "nobody is of the other SIDE", () -> Edges.due("who(0)", Edges.withTempers(5).who(0), 0));
        for (int p : new int[] {-1, 6, 12, 32, Edges.LEAST, Edges.MOST}) {
            Edges.sentence(27, "NONE if there is no such PERSON.", () -> Edges.refused("who(" + p + ")", x -> x.who(p), -1));
            Edges.sentence(28, "or no such PERSON.", () -> Edges.refused("ask(" + p + ")", x -> x.ask(p), -1));
        }
    }

    private static void ask() {
        Edges.sentence(28, "NONE if WHO are fewer than two", () -> {
            SnowRises x = Edges.withTempers(5, 5, 5, 4, 5, 3);
            Edges.due("three", x.ask(0), 2);
            x.stir(0, 8, true);
            Edges.due("two", x.ask(0), 2);
            x.stir(0, 9, true);
            Edges.due("one", x.ask(0), -1);
            x.stir(0, 0, false);
            Edges.due("none", x.ask(0), -1);
        });
        Edges.sentence(28, "there is none to ask", () -> {
            SnowRises x = people("", new int[] {0, 5, 0}, new int[] {1, 5, 0}, new int[] {1, 4, 0});
            Edges.due("ask(0): nobody else of his SIDE", x.ask(0), -1);
            x.person(0, 1, 0, 0);
            Edges.due("ask(0)", x.ask(0), 3);
        });
        Edges.sentence(28, "of PEOPLE of a's own SIDE, but a", () -> {
            // a himself would part them best.
            SnowRises x = Edges.withTempers(0, 1, 5, 2, 5, 8, 5, 9);
            Edges.due("ask(0)", x.ask(0), 2);
            Edges.due("ask(2)", x.ask(2), 0);
            Edges.due("ask(4)", x.ask(4), 0);
        });
        Edges.sentence(28, "for whom the greatest number .. with one and the same FOUND is least", () -> {
            // FOUND with 1, 3, 9, 9: by 2: 8 8 2 2; by 5: 5 7 5 5; by 4: 6 8 4 4; by 0: 8 6 0 0; by 6: 4 6 6 6.
            SnowRises x = Edges.withTempers(9, 1, 5, 3, 6, 9, 2, 9, 4, 9);
            Edges.due("ask(0) of 1, 3, 9, 9, 9", x.ask(0), 6);
            x.set(4, 9, 2);
            // Of 1, 3, 9, 9, 2: by 5: 5 7 5 5 6: 3; by 6: 4 6 6 6 5: 3; by 2: 8 8 2 2 9: 2; by 4: 6 8 4 4 7: 2.
            Edges.due("ask(0)", x.ask(0), 6);
            Edges.due("ask(6)", x.ask(6), 0);
            x.set(4, 0, 5);
            Edges.due("ask(6)", x.ask(6), 8);
        });
        Edges.sentence(28, "of several the least", () -> {
            SnowRises x = Edges.withTempers(5, 5, 3, 6, 3, 7, 3);
            Edges.due("ask(0)", x.ask(0), 2);
            Edges.due("ask(2)", x.ask(2), 0);
            Edges.due("ask(6)", x.ask(6), 0);
            x.set(4, 5, 5);
            x.set(4, 0, 2);
            // Two are alike for each one.
            Edges.due("ask(0)", x.ask(0), 2);
            Edges.due("ask(2)", x.ask(2), 0);
        });
        Edges.sentence(28, "one and the same FOUND: 0, too", () -> {
            // FOUND with 9, 9, 8: by 0: 0 0 1; by 9: 9 9 8; of 7, 9, 0: by 9: 7 9 0.
            SnowRises x = Edges.withTempers(5, 9, 0, 9, 9, 8);
            Edges.due("ask(0): two alike by each", x.ask(0), 2);
            x.set(4, 3, 7);
            Edges.due("ask(0): 9, 7, 8 by 0 and by 9", x.ask(0), 2);
            x.set(4, 5, 0);
            x.set(4, 4, 0);
            x.set(4, 1, 5);
            x.set(4, 2, 5);
            // FOUND with 5, 7, 0: by 5: 9 7 4; by 0: 4 2 9.
            Edges.due("ask(0)", x.ask(0), 2);
            SnowRises y = people("match other when temper=1;match temper when other=1;match 9-apart;", new int[] {0, 5, 0}, new int[] {1, 0, 0},
                new int[] {0, 1, 0}, new int[] {1, 0, 0}, new int[] {0, 9, 0}, new int[] {1, 0, 0}, new int[] {0, 8, 0}, new int[] {1, 1, 0});
            // By 1: 0 0 0 1; by 9: 0 0 0 9 or 1; by 8: 1 1 1 and so on: three alike by each.
            Edges.due("ask(0): three alike by each", y.ask(0), 2);
            y.set(4, 1, 3);
            y.set(4, 3, 4);
            // By 1: 3 4 0 1; one each.
            Edges.due("ask(0): by 1 all are unlike", y.ask(0), 2);
            Edges.due("ask(2): by 9: 3 4 0 1, by 5: 7 8 4 1", y.ask(2), 0);
            y.set(4, 0, 9);
            y.set(4, 2, 9);
            y.set(4, 3, 0);
            // By 9 of 3, 0, 0, 1: two alike; by 8: 4 1 1 1: three alike.
            Edges.due("ask(6)", y.ask(6), 0);
            Edges.due("ask(0)", y.ask(0), 2);
        });
        Edges.sentence(28, "PEOPLE from 0 on are counted", () -> {
            // a is 3; of 0, 2, 4: by 1: 9 9 5; by 5: 7 3 9.
            SnowRises x = Edges.withTempers(7, 7, 3, 0, 9, 5);
            Edges.due("7, 3, 9 by 7: 9 5 7", x.ask(3), 1);
            x.set(4, 1, 5);
            x.set(4, 2, 9);
            Edges.due("7, 9, 9 by 5: 7 5 5; by 5", x.ask(3), 1);
            x.set(4, 0, 9);
            x.set(4, 4, 1);
            x.set(4, 5, 8);
            Edges.due("9, 9, 1 by 5: 5 5 5; by 8: 8 8 2", x.ask(3), 5);
            x.set(4, 2, 2);
            x.set(4, 4, 4);
            // 9, 2, 4 by 5: 5 6 8; by 8: 8 3 5.
            Edges.due("all unlike by each", x.ask(3), 1);
            x.set(4, 2, 1);
            x.set(4, 4, 6);
            // 9, 1, 6 by 5: 5 5 8; by 8: 8 2 7.
            Edges.due("0 and 2 are alike by 1", x.ask(3), 5);
        });
        Edges.sentence(28, "those of WHO alone are counted", () -> {
            // FOUND of 0 with 1, 3, 5, 7: 8, 8, 6, 6.
            SnowRises x = people("match 9-apart;", new int[] {0, 5, 0}, new int[] {1, 4, 0}, new int[] {0, 7, 0}, new int[] {1, 6, 0},
                new int[] {0, 3, 0}, new int[] {1, 8, 0}, new int[] {0, 5, 0}, new int[] {1, 2, 0});
            x.stir(0, 8, false);
            Edges.due("ask(0): 4 and 6 by 7", x.ask(0), 2);
            x.stir(-1, 0, false);
            x.stir(0, 6, true);
            Edges.due("ask(0): 4, 6, 8, 2 by 7: 6 8 8 4; by 3: 8 6 4 8; by 5: 8 8 6 6", x.ask(0), 2);
            x.set(4, 2, 5);
            x.stir(-1, 0, false);
            x.stir(0, 8, false);
            Edges.due("ask(0): by 5 they are alike", x.ask(0), 4);
        });
    }

    private static void fans() {
        int[][] want = {{0, 0, 0}, {99, 0, 0}, {0, 1000, 1000000}, {99, 1000, 1000000}, {0, 1, 10}, {99, 1, 90991}, {0, 999, 909008},
            {99, 999, 999989}, {49, 500, 495049}, {50, 500, 504950}, {0, 500, 9900}};
        for (int[] w : want) {
            Edges.sentence(29, "FANS of a height h (0 .. 99), if p of a thousand are forged .. downwards", () -> {
                long forged = 1L * w[1] * (w[0] + 1);
                long all = forged + (1000L - w[1]) * (100 - w[0]);
                Edges.due("fans by the words", 1000000L * forged / all, w[2]);
                Edges.due("fans(" + w[0] + ", " + w[1] + ")", new SnowRises().fans(w[0], w[1]), w[2]);
            });
        }
        int[][] bad = {{-1, 500}, {100, 500}, {Edges.LEAST, 500}, {Edges.MOST, 500}, {50, -1}, {50, 1001}, {50, Edges.LEAST}, {50, Edges.MOST},
            {-1, -1}};
        for (int[] b : bad) {
            Edges.sentence(29, "NONE if one can't be (p 0 .. 1000).", () ->
                Edges.refused("fans(" + b[0] + ", " + b[1] + ")", x -> x.fans(b[0], b[1]), -1));
        }
    }

    private static void safe() {
        Edges.sentence(30, "over FIELDS with SNOW below STEEP", () -> {
            for (int steep : new int[] {1, 60, 99}) {
                SnowRises x = bare(3, 3);
                x.set(1, 0, steep);
                for (int f : new int[] {1, 9, 17}) {
                    x.set(3, f, steep);
                }
                Edges.due("safe(0, 2)", x.safe(0, 2), -1);
                x.set(3, 17, steep - 1);
                Edges.due("safe(0, 2)", x.safe(0, 2), 6);
                x.set(3, 9, steep - 1);
                Edges.due("safe(0, 2)", x.safe(0, 2), 4);
                x.set(3, 1, steep - 1);
                Edges.due("safe(0, 2)", x.safe(0, 2), 2);
            }
        });
        Edges.sentence(30, "(the ends, too)", () -> {
            SnowRises x = bare(3, 3);
            setSteep(x, 9);
            Edges.due("safe(9, 10)", x.safe(9, 10), -1);
            Edges.due("safe(10, 9)", x.safe(10, 9), -1);
            Edges.due("safe(9, 9)", x.safe(9, 9), -1);
            x.set(3, 9, 59);
            Edges.due("safe(9, 10)", x.safe(9, 10), 1);
            Edges.due("safe(9, 9)", x.safe(9, 9), 0);
        });
        Edges.sentence(30, "the fewest steps", () -> {
            SnowRises x = bare(8, 7);
            Edges.due("safe(0, 55)", x.safe(0, 55), 13);
            Edges.due("safe(7, 8): not side by side", x.safe(7, 8), 8);
            Edges.due("safe(8, 7)", x.safe(8, 7), 8);
            // A way to and fro through all rows.
            for (int f = 0; f < 7; f++) {
                setSteep(x, 8 + f, 24 + f + 1, 40 + f);
            }
            Edges.due("safe(0, 55)", x.safe(0, 48), 34);
            Edges.due("safe(0, 7)", x.safe(0, 7), 7);
            setSteep(x, 31 - 7);
            Edges.due("safe: cut off", x.safe(0, 48), -1);
            Edges.due("safe ahead of it", x.safe(0, 16), 16);
        });
        Edges.sentence(30, "whatever was asked ahead", () -> {
            SnowRises x = bare(3, 3);
            setSteep(x, 9);
            for (int i = 0; i < 2; i++) {
                Edges.due("safe(8, 0)", x.safe(8, 0), 1);
                Edges.due("safe(8, 1)", x.safe(8, 1), 2);
                Edges.due("safe(1, 8)", x.safe(1, 8), 2);
                Edges.due("safe(10, 8)", x.safe(10, 8), 4);
                Edges.due("safe(17, 10)", x.safe(17, 10), 2);
                Edges.due("safe(0, 18)", x.safe(0, 18), 4);
                Edges.due("safe(8, 17)", x.safe(8, 17), 2);
            }
        });
        Edges.sentence(30, "all is STEEP", () -> {
            SnowRises x = new SnowRises();
            x.set(1, 0, 10);
            Edges.due("safe(0, 1)", x.safe(0, 1), -1);
            Edges.due("safe(0, 0)", x.safe(0, 0), -1);
            x.set(1, 0, 11);
            Edges.due("safe(0, 1)", x.safe(0, 1), 1);
        });
        for (int f : new int[] {-1, 3, 7, 32, 56, 64, Edges.LEAST, Edges.MOST}) {
            Edges.sentence(30, "or one can't be.", () -> {
                Edges.refused("safe(" + f + ", 0)", x -> x.safe(f, 0), -1);
                Edges.refused("safe(0, " + f + ")", x -> x.safe(0, f), -1);
                Edges.refused("safe(" + f + ", " + f + ")", x -> x.safe(f, f), -1);
            });
            Edges.sentence(31, "or one can't be.", () -> {
                Edges.refused("cut(" + f + ", 18)", x -> x.cut(f, 18), -1);
                Edges.refused("cut(18, " + f + ")", x -> x.cut(18, f), -1);
            });
        }
    }

    private static void cut() {
        Edges.sentence(31, "CUT: the fewest such FIELDS (not the ends)", () -> {
            SnowRises x = bare(5, 5);
            Edges.due("from a corner", x.cut(0, 18), 2);
            Edges.due("to a corner", x.cut(18, 36), 2);
            Edges.due("from a side", x.cut(2, 18), 3);
            Edges.due("from within", x.cut(9, 27), 4);
            Edges.due("by a corner", x.cut(9, 18), 4);
            Edges.due("two steps in a row", x.cut(9, 11), 4);
            Edges.due("two steps along a side", x.cut(0, 2), 2);
            Edges.due("corners of one side", x.cut(0, 4), 2);
        });
        Edges.sentence(31, "as many as are left", () -> {
            SnowRises x = bare(5, 5);
            setSteep(x, 1);
            Edges.due("one STEEP beside the corner", x.cut(0, 36), 1);
            setSteep(x, 8);
            Edges.due("no way is left already", x.cut(0, 36), 0);
            SnowRises y = bare(5, 5);
            setSteep(y, 2, 10, 26, 34);
            Edges.due("a wall but for one", y.cut(8, 12), 1);
            Edges.due("of the same side", y.cut(0, 9), 2);
            setSteep(y, 18);
            Edges.due("a wall", y.cut(8, 12), 0);
            y.set(3, 2, 0);
            Edges.due("a wall but for another one", y.cut(8, 12), 1);
            y.set(3, 34, 59);
            Edges.due("a wall but for two", y.cut(8, 12), 2);
        });
        Edges.sentence(31, "one FIELD in which two ways meet", () -> {
            SnowRises x = bare(3, 3);
            setSteep(x, 2, 16);
            Edges.due("cut(0, 18)", x.cut(0, 18), 1);
            Edges.due("cut(18, 0)", x.cut(18, 0), 1);
            Edges.due("cut(0, 9)", x.cut(0, 9), 2);
            SnowRises y = bare(8, 7);
            for (int f = 0; f < 7; f++) {
                setSteep(y, 8 + f, 24 + f + 1, 40 + f);
            }
            Edges.due("a long way", y.cut(0, 48), 1);
            Edges.due("and back", y.cut(48, 0), 1);
        });
        Edges.sentence(31, "ways that can't be counted without leading an earlier one anew", () -> {
            cutOf(7, 4, 5, 19, 3, 10, 20);
            cutOf(6, 4, 18, 12, 3, 20, 26);
            cutOf(4, 6, 34, 9, 3, 8, 33);
            cutOf(6, 5, 25, 11, 3, 10, 28, 33);
            cutOf(5, 7, 42, 19, 3, 8, 10, 20, 28, 43, 52);
            cutOf(8, 6, 30, 18, 4, 0, 7, 24, 27, 34, 37, 40);
            cutOf(8, 7, 14, 42, 4, 18, 27, 38, 39, 44, 54);
            cutOf(8, 7, 21, 17, 4, 19, 30, 31, 36, 39, 41, 43, 49);
        });
        Edges.sentence(31, "which, if they were STEEP, too, left no way: by trying all", ThoughtEdgesTest::cutByTrying);
        Edges.sentence(31, "NONE if they are side by side", () -> {
            SnowRises x = bare(5, 5);
            for (int f : new int[] {10, 17, 19, 26}) {
                Edges.due("cut(18, " + f + ")", x.cut(18, f), -1);
                Edges.due("cut(" + f + ", 18)", x.cut(f, 18), -1);
            }
            Edges.due("the row's end is not", x.cut(4, 8), 2);
            SnowRises y = bare(8, 7);
            Edges.due("the row's end is not", y.cut(7, 8), 2);
            Edges.due("the row's end is not", y.cut(15, 16), 3);
        });
        Edges.sentence(31, "or alike", () -> Edges.due("cut(18, 18)", bare(5, 5).cut(18, 18), -1));
        Edges.sentence(31, "an end is STEEP", () -> {
            SnowRises x = bare(5, 5);
            x.set(3, 0, 60);
            Edges.due("cut(0, 18)", x.cut(0, 18), -1);
            Edges.due("cut(18, 0)", x.cut(18, 0), -1);
            x.set(3, 0, 59);
            Edges.due("cut(0, 18)", x.cut(0, 18), 2);
            x.set(1, 0, 59);
            Edges.due("cut(0, 18)", x.cut(0, 18), -1);
        });
    }

    private static void cutOf(int w, int h, int a, int b, int want, int... steep) {
        SnowRises x = bare(w, h);
        setSteep(x, steep);
        Edges.due("cut(" + a + ", " + b + ") of " + w + " by " + h, x.cut(a, b), want);
        boolean[] open = new boolean[64];
        int[] fields = new int[w * h];
        for (int i = 0; i < w * h; i++) {
            fields[i] = 8 * (i / w) + i % w;
            open[fields[i]] = x.at(fields[i], 0) == 0;
        }
        Edges.due("by trying all", fewest(fields, open, a, b), want);
    }

    /** Valleys by chance, many questions to each one: what was found ahead is no matter. */
    private static void cutByTrying() {
        java.util.Random random = new java.util.Random(11);
        for (int round = 0; round < 66; round++) {
            int w = round < 60 ? 3 + round % 4 : 8;
            int h = round < 60 ? 3 + round % 2 : 7;
            SnowRises x = bare(w, h);
            boolean[] open = new boolean[64];
            int[] fields = new int[w * h];
            for (int i = 0; i < w * h; i++) {
                fields[i] = 8 * (i / w) + i % w;
                open[fields[i]] = random.nextInt(5) > 0;
                if (!open[fields[i]]) {
                    setSteep(x, fields[i]);
                }
            }
            for (int i = 0; i < 12; i++) {
                int a = fields[random.nextInt(w * h)];
                int b = fields[random.nextInt(w * h)];
                int steps = Math.abs(a % 8 - b % 8) + Math.abs(a / 8 - b / 8);
                int want = steps < 2 || !open[a] || !open[b] ? -1 : fewest(fields, open, a, b);
                Edges.due("cut(" + a + ", " + b + ") of valley " + round, x.cut(a, b), want);
            }
        }
    }

    private static int fewest(int[] fields, boolean[] open, int a, int b) {
        int most = 0;
        while (!leavesNoWay(fields, open, 0, most, a, b)) {
            most++;
        }
        return most;
    }

    private static boolean leavesNoWay(int[] fields, boolean[] open, int from, int more, int a, int b) {
        if (more == 0) {
            return !reaches(open.clone(), a, b);
        }
        for (int i = from; i < fields.length; i++) {
            int f = fields[i];
            if (open[f] && f != a && f != b) {
                open[f] = false;
                boolean none = leavesNoWay(fields, open, i + 1, more - 1, a, b);
                open[f] = true;
                if (none) {
                    return true;
                }
            }
        }
        return false;
    }

    private static boolean reaches(boolean[] open, int a, int b) {
        if (a < 0 || a >= 64 || !open[a]) {
            return false;
        }
        open[a] = false;
        return a == b || reaches(open, a - 8, b) || reaches(open, a + 8, b) || a % 8 > 0 && reaches(open, a - 1, b)
            || a % 8 < 7 && reaches(open, a + 1, b);
    }

    private static void roundsAre(SnowRises x, int days, int... want) {
        Edges.due("rounds(0)", x.rounds(0), days);
        for (int i = 0; i < want.length; i++) {
            Edges.due("rounds(" + (10 + i) + ")", x.rounds(10 + i), want[i]);
        }
        Edges.due("behind the last line", x.rounds(10 + want.length), -1);
    }

    private static SnowRises vowsOf(String vows) {
        SnowRises x = new SnowRises();
        x.valley(8, 7);
        for (int i = 0; i < 12; i++) {
            x.person(i % 2, 5, 5, 0);
        }
        Edges.told(x, 1, vows);
        return x;
    }

    private static void rounds() {
        Edges.sentence(32, "no lines", () -> roundsAre(new SnowRises(), 0));
        Edges.sentence(32, "at FIELDS 2 steps apart or less (by x and y)", () -> {
            int[][] near = {{18, 0}, {19, 0}, {17, 0}, {10, 0}, {26, 0}, {20, 0}, {16, 0}, {2, 0}, {34, 0}, {27, 0}, {25, 0}, {11, 0}, {9, 0},
                {21, 1}, {42, 1}, {28, 1}, {35, 1}, {12, 1}, {8, 1}, {3, 1}, {23, 1}, {15, 1}, {24, 1}, {24 + 23, 1}};
            for (int[] n : near) {
                int far = Math.abs(n[0] % 8 - 2) + Math.abs(n[0] / 8 - 2);
                Edges.due("far " + far, far > 2, n[1] == 1);
                SnowRises x = vowsOf("on 0 0 and 1 at 18;on 0 2 and 3 at " + n[0] + ";");
                roundsAre(x, n[1] == 1 ? 1 : 2, 0, n[1] == 1 ? 0 : 1);
            }
        });
        Edges.sentence(32, "lines of VOWS whose PEOPLE are not WED now", () -> {
            SnowRises x = vowsOf("on 0 0 and 1 at 0;on 0 3 and 2 at 0;");
            roundsAre(x, 2, 0, 1);
            x.vow(0, 5, 0);
            roundsAre(x, 1, -1, 0);
            x.vow(4, 3, 0);
            roundsAre(x, 0, -1, -1);
            x.part(0, 5);
            roundsAre(x, 1, 0, -1);
        });
        Edges.sentence(32, "nor in a line ahead of it that counts", () -> {
            roundsAre(vowsOf("on 0 0 and 1 at 0;on 9 0 and 3 at 55;on 9 3 and 2 at 0;on 9 2 and 5 at 55;"), 2, 0, -1, 1, -1);
            roundsAre(vowsOf("on 0 0 and 1 at 0;on 0 0 and 1 at 0;"), 1, 0, -1);
            roundsAre(vowsOf("on 0 0 and 1 at 0;on 0 2 and 1 at 0;on 0 2 and 3 at 55;"), 1, 0, -1, 0);
        });
        Edges.sentence(32, "whatever DAY a line is for", () -> {
            SnowRises x = vowsOf("on 999 0 and 1 at 0;on 1 2 and 3 at 55;on 3 4 and 5 at 0;");
            roundsAre(x, 2, 0, 0, 1);
            SnowRises y = vowsOf("");
            y.days(9);
            Edges.told(y, 1, "on 3 0 and 1 at 0;on 2 2 and 3 at 0;");
            roundsAre(y, 2, 0, 1);
        });
        Edges.sentence(32, "the fewest days", () -> {
            roundsAre(vowsOf("on 0 0 and 1 at 0;"), 1, 0);
            roundsAre(vowsOf("on 0 0 and 1 at 9;on 0 2 and 3 at 9;on 0 4 and 5 at 9;on 0 6 and 7 at 9;on 0 8 and 9 at 9;on 0 10 and 11 at 9;"),
                6, 0, 1, 2, 3, 4, 5);
            roundsAre(vowsOf("on 0 0 and 1 at 0;on 0 2 and 3 at 7;on 0 4 and 5 at 48;on 0 6 and 7 at 55;on 0 8 and 9 at 27;on 0 10 and 11 at 3;"),
                1, 0, 0, 0, 0, 0, 0);
        });
        Edges.sentence(32, "of several ways with so many the first (line by line, the lesser)", () -> {
            // In a row 0, 3, 1, 2: the first two fit on one day, but then the others do not.
            roundsAre(vowsOf("on 0 0 and 1 at 0;on 0 2 and 3 at 5;on 0 4 and 5 at 2;on 0 6 and 7 at 4;on 0 8 and 9 at 1;"), 3, 0, 0, 1, 2, 2);
            // A chain 0 .. 6 by twos of which the ends come first: 0 and 6 must be on days 0 and 1, not both on 0.
            roundsAre(vowsOf("on 0 0 and 1 at 0;on 0 2 and 3 at 6;on 0 4 and 5 at 2;on 0 6 and 7 at 4;"), 2, 0, 1, 1, 0);
            roundsAre(vowsOf("on 0 0 and 1 at 0;on 0 2 and 3 at 4;on 0 4 and 5 at 2;"), 2, 0, 0, 1);
        });
        Edges.sentence(32, "10 + i the day of line i: the sixteenth line, and behind it", () -> {
            SnowRises x = vowsOf("on 0 0 and 1 at 0;".repeat(15) + "on 0 2 and 3 at 1;");
            Edges.due("rounds(0)", x.rounds(0), 2);
            Edges.due("rounds(10)", x.rounds(10), 0);
            Edges.due("rounds(11)", x.rounds(11), -1);
            Edges.due("rounds(24)", x.rounds(24), -1);
            Edges.due("rounds(25)", x.rounds(25), 1);
            Edges.due("rounds(26)", x.rounds(26), -1);
        });
        for (int what : new int[] {-1, 1, 2, 9, 13, 26, Edges.LEAST, Edges.MOST}) {
            Edges.sentence(32, "NONE for another what.", () -> Edges.refused("rounds(" + what + ")", x -> x.rounds(what), -1));
        }
    }

    private static void comesOf(String law, int temperA, int temperB, int want) {
        Edges.sentence(33, "how many years (0 .. 20) till FOUND is 6 at least", () -> {
            SnowRises x = Edges.withLaw(law, temperA, temperB);
            Edges.due("comes of " + temperA + " and " + temperB + " by " + law, x.comes(0, 1), want);
            Edges.due("comes, the other one first", x.comes(1, 0), want);
            Edges.due("TEMPER stays", x.of(0, 1), temperA);
            Edges.due("TEMPER stays", x.of(1, 1), temperB);
        });
    }

    private static void comes() {
        for (int apart = 0; apart <= 9; apart++) {
            comesOf("match 9-apart;", 0, apart, apart <= 3 ? 0 : apart <= 5 ? 1 : apart <= 7 ? 2 : 3);
            comesOf("match 9-apart;", 9, 9 - apart, apart <= 3 ? 0 : apart <= 5 ? 1 : apart <= 7 ? 2 : 3);
            comesOf("match 9 when apart<2;match 0;", 0, apart, apart / 2);
            comesOf("match 9 when apart=0;match 0;", 0, apart, apart % 2 == 0 ? apart / 2 : -1);
            comesOf("match 9 when apart=1;match 0;", apart, 0, apart % 2 == 1 ? apart / 2 : -1);
        }
        comesOf("match 6;", 0, 9, 0);
        comesOf("match 5;", 0, 9, -1);
        comesOf("match 6 when apart=5;match 5;", 0, 9, 2);
        comesOf("match 5 when apart=5;match 4;", 0, 9, -1);
        // Unless they are one or none apart: so they stay as they are.
        comesOf("match 9 when temper=4 and other=5;match 5 when temper=5 and other=4;match 0;", 5, 4, -1);
        comesOf("match 9 when temper=5 and other=5;match 0;", 4, 6, 1);
        comesOf("match 9 when temper=5 and other=5;match 0;", 6, 4, 1);
        comesOf("match 9 when temper=4 and other=6;match 9 when temper=6 and other=4;match 0;", 5, 5, -1);
        comesOf("match 9 when temper=5 and other=4;match 9 when temper=4 and other=5;match 0;", 9, 0, 4);
        comesOf("match 9 when temper=5 and other=4;match 0;", 9, 0, -1);
        Edges.sentence(33, "unless they are one or none apart: TEMPERS one apart don't change places", () -> {
            SnowRises x = Edges.withLaw("match 9 when temper=6 and hope=1 or temper=5 and hope=2;match 5;", 5, 6);
            x.set(5, 0, 1);
            x.set(5, 1, 2);
            Edges.due("5 and 6", x.comes(0, 1), -1);
            x.set(4, 0, 6);
            x.set(4, 1, 5);
            Edges.due("6 and 5", x.comes(0, 1), 0);
            Edges.told(x, 0, "match 9 when temper=6 and hope=1 or temper=4 and hope=2;match 5;");
            x.set(4, 0, 5);
            Edges.due("5 and 5", x.comes(0, 1), -1);
            x.set(4, 0, 8);
            x.set(4, 1, 2);
            Edges.due("8 and 2, 7 and 3, 6 and 4", x.comes(0, 1), 2);
            x.set(4, 0, 4);
            x.set(4, 1, 6);
            Edges.due("4 and 6, 5 and 5", x.comes(0, 1), -1);
        });
        Edges.sentence(33, "(all else as now)", () -> {
            SnowRises x = Edges.withLaw("match 6 when day>0;match 0;", 5, 5);
            Edges.due("DAY", x.comes(0, 1), -1);
            x.days(1);
            Edges.due("DAY", x.comes(0, 1), 0);
            SnowRises y = Edges.withLaw("match 9 when apart<2 and kin=1 and hope=3 and wish=3;match 0;", 9, 0);
            y.set(5, 0, 3);
            y.set(5, 1, 3);
            Edges.due("not KIN", y.comes(0, 1), -1);
            y.kin(0, 1, true);
            Edges.due("KIN", y.comes(0, 1), 4);
            y.vow(0, 1, 0);
            Edges.due("WED", y.comes(0, 1), 4);
        });
        int[][] bad = {{0, 2}, {2, 4}, {1, 3}, {0, 0}, {1, 1}, {-1, 0}, {0, -1}, {6, 0}, {1, 6}, {0, 7}, {Edges.LEAST, 0}, {0, Edges.MOST}};
        for (int[] b : bad) {
            Edges.sentence(33, "or one can't be (unlike SIDES alone).", () ->
                Edges.refused("comes(" + b[0] + ", " + b[1] + ")", x -> x.comes(b[0], b[1]), -1));
        }
    }

    /** NEXT is so much, all FIELDS but the first have 1 SNOW, and WANTS are told. */
    private static SnowRises asking(int next, String wants) {
        SnowRises x = Edges.withLaw("match 9;lift snow when far=0;lift 0;", 5, 5);
        int left = next;
        while (left > 0) {
            int some = Math.min(99, left);
            x.set(3, 0, some);
            x.vow(0, 1, 0);
            x.part(0, 1);
            left -= some;
        }
        x.set(3, 0, 0);
        for (int f = 1; f < 29; f++) {
            x.set(3, f, 1);
        }
        Edges.told(x, 3, wants);
        Edges.due("NEXT", x.look(7), next);
        return x;
    }

    private static void asks() {
        int[][] nexts = {{0, 5}, {9, 5}, {10, 6}, {19, 6}, {20, 6}, {29, 6}, {30, 7}, {99, 10}, {100, 10}, {109, 10}, {110, 11}, {119, 11},
            {120, -1}, {990, -1}};
        for (int[] n : nexts) {
            Edges.sentence(34, "between NEXT by 10 and the worth: the middle, downwards; none, if the first is above the other one", () ->
                Edges.due("asks() with NEXT " + n[0] + ", worth 11", asking(n[0], "bare 0 on 0 worth 11;").asks(), n[1]));
        }
        Edges.sentence(34, "no WANTS", () -> {
            Edges.due("NEXT 0", asking(0, "").asks(), 0);
            Edges.due("NEXT 9", asking(9, "").asks(), 0);
            Edges.due("NEXT 10", asking(10, "").asks(), -1);
        });
        Edges.sentence(34, "all WANTS (of whatever DAY)", () -> {
            SnowRises x = asking(0, "bare 0 on 0 worth 1;bare 0 on 999 worth 2;bare 0 on 3 worth 5;");
            Edges.due("asks()", x.asks(), 4);
            x.days(5);
            Edges.due("asks() behind DAYS of WANTS", x.asks(), 4);
        });
        Edges.sentence(34, "on whose FIELD there is no SNOW now", () -> {
            SnowRises x = asking(0, "bare 0 on 0 worth 20;bare 1 on 0 worth 40;bare 28 on 0 worth 80;");
            Edges.due("SNOW 1 is SNOW", x.asks(), 10);
            x.sweep(1);
            Edges.due("asks()", x.asks(), 30);
            x.sweep(28);
            Edges.due("asks()", x.asks(), 70);
            x.set(3, 0, 1);
            Edges.due("asks()", x.asks(), 60);
        });
        Edges.sentence(34, "twelve of worth 99", () ->
            Edges.due("asks()", asking(0, "bare 0 on 0 worth 99;".repeat(12)).asks(), 594));
    }

    private static void tribe() {
        Edges.sentence(35, "all who are KIN of one, and so on", () -> {
            SnowRises x = Edges.withTempers(0, 0, 0, 0, 0, 0, 0, 0, 0, 0, 0, 0);
            for (int p = 0; p < 12; p++) {
                Edges.due("alone", x.tribe(p), 1 << p);
            }
            // A chain against the numbers: 11 - 0 - 10 - 1 - 9 - 2 - 8 - 3 - 7 - 4 - 6 - 5.
            int[] chain = {11, 0, 10, 1, 9, 2, 8, 3, 7, 4, 6, 5};
            for (int i = 1; i < 12; i++) {
                x.kin(chain[i - 1], chain[i], true);
            }
            for (int p = 0; p < 12; p++) {
                Edges.due("tribe(" + p + ")", x.tribe(p), 4095);
            }
            x.kin(2, 9, false);
            Edges.due("tribe(11)", x.tribe(11), 1 << 11 | 1 | 1 << 10 | 2 | 1 << 9);
            Edges.due("tribe(5)", x.tribe(5), 4 | 1 << 8 | 8 | 1 << 7 | 16 | 64 | 32);
        });
        for (int p : new int[] {-1, 6, 12, 32, Edges.LEAST, Edges.MOST}) {
            Edges.sentence(35, "NONE if there is no such PERSON.", () -> Edges.refused("tribe(" + p + ")", x -> x.tribe(p), -1));
        }
        Edges.sentence(35, "nobody", () -> Edges.due("tribe(0)", new SnowRises().tribe(0), -1));
    }

    private static void hopesAre(SnowRises x, int sum, int set) {
        Edges.due("hopes(0)", x.hopes(0), sum);
        Edges.due("hopes(1)", x.hopes(1), set);
    }

    private static SnowRises hoping(int... hopes) {
        SnowRises x = new SnowRises();
        for (int h : hopes) {
            x.person(0, 0, h, 0);
        }
        return x;
    }

    private static void hopes() {
        Edges.sentence(36, "of nobody", () -> hopesAre(new SnowRises(), 0, 0));
        Edges.sentence(36, "the greatest sum of HOPE of PEOPLE no two of whom are KIN", () -> {
            hopesAre(hoping(9, 9, 9, 9, 9, 9, 9, 9, 9, 9, 9, 9), 108, 4095);
            SnowRises x = hoping(4, 7, 4);
            x.kin(0, 1, true);
            x.kin(1, 2, true);
            hopesAre(x, 8, 5);
            x.set(5, 1, 9);
            hopesAre(x, 9, 2);
            SnowRises y = hoping(1, 2, 3, 4, 5, 6, 7, 8, 9, 3, 2, 1);
            for (int a = 0; a < 12; a++) {
                for (int b = a + 1; b < 12; b++) {
                    y.kin(a, b, true);
                }
            }
            hopesAre(y, 9, 256);
            y.kin(8, 11, false);
            hopesAre(y, 10, 256 + 2048);
        });
        Edges.sentence(36, "the least set", () -> {
            hopesAre(hoping(0), 0, 0);
            hopesAre(hoping(0, 0, 0), 0, 0);
            hopesAre(hoping(0, 3, 0), 3, 2);
            SnowRises x = hoping(5, 5);
            x.kin(0, 1, true);
            hopesAre(x, 5, 1);
            // 0 and 1 against 2: 3 is less than 4; 3 against 0 and 1 and so on.
            SnowRises y = hoping(2, 3, 5);
            y.kin(0, 2, true);
            y.kin(1, 2, true);
            hopesAre(y, 5, 3);
            SnowRises z = hoping(5, 2, 3);
            z.kin(0, 1, true);
            z.kin(0, 2, true);
            hopesAre(z, 5, 1);
        });
        Edges.sentence(36, "whatever SIDE, WED or not", () -> {
            SnowRises x = Edges.rich();
            // 0 and 2 are KIN, 3 and 5; HOPE 3 4 0 7 5 2; 2 and 3 are WED.
            hopesAre(x, 3 + 4 + 7 + 5, 1 + 2 + 8 + 16);
        });
        for (int what : new int[] {-1, 2, Edges.LEAST, Edges.MOST}) {
            Edges.sentence(36, "NONE for another what.", () -> Edges.refused("hopes(" + what + ")", x -> x.hopes(what), -1));
        }
    }

    public static void main(String[] args) {
        nothingStays();
        lies();
        meets();
        firstVoid();
        stable();
        best();
        bares();
        stirs();
        who();
        ask();
        fans();
        safe();
        cut();
        rounds();
        comes();
        asks();
        tribe();
        hopes();
        Edges.end();
    }
}
