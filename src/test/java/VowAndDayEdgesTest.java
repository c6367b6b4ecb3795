/** Edges of VOWS, DAYS, parting, sweeping and THE BOOK: 'Terms' 3, promises 7 to 10 and 20. */
public final class VowAndDayEdgesTest {
    private static SnowRises couple(String law) {
        return Edges.withLaw(law, 5, 5, 5, 5);
    }

    /** Line i of THE BOOK is this. */
    private static void line(SnowRises x, int i, int day, int what, int first, int much) {
        Edges.due("book(" + i + ", 0)", x.book(i, 0), day);
        Edges.due("book(" + i + ", 1)", x.book(i, 1), what);
        Edges.due("book(" + i + ", 2)", x.book(i, 2), first);
        Edges.due("book(" + i + ", 3)", x.book(i, 3), much);
    }

    private static void snowOf(SnowRises x, int from, int step, int... want) {
        for (int i = 0; i < want.length; i++) {
            Edges.due("at(" + (from + i * step) + ", 0)", x.at(from + i * step, 0), want[i]);
        }
    }

    private static void setSnow(SnowRises x, int from, int step, int... snow) {
        for (int i = 0; i < snow.length; i++) {
            x.set(3, from + i * step, snow[i]);
        }
    }

    private static void kinds() {
        for (int found = 0; found <= 9; found++) {
            int f = found;
            String words = f >= 6 ? "They are RIGHT, if it is 6 at least" : f >= 3 ? "HALF, if it is 3 at least" : "Else nothing.";
            Edges.sentence(7, words, () -> {
                SnowRises x = couple("match " + f + ";lift 4;");
                Edges.due("vow", x.vow(0, 1, 9), f);
                line(x, 0, 0, f >= 6 ? 0 : f >= 3 ? 1 : 2, 0, f >= 6 ? 80 : f >= 3 ? 40 : 0);
                Edges.due("NEXT", x.look(7), f >= 6 ? 80 : f >= 3 ? 8 : 0);
                snowOf(x, 8, 1, f >= 6 ? 6 : f >= 3 ? 8 : 10, f >= 6 ? 6 : 10);
                Edges.due("of(0, 4)", x.of(0, 4), 1);
                Edges.due("of(1, 4)", x.of(1, 4), 0);
                Edges.due("look(15)", x.look(15), 1);
            });
        }
        Edges.sentence(7, "FOUND is the lesser one of both: 6 and 5 are HALF", () -> {
            SnowRises x = couple("match temper;");
            x.set(4, 1, 6);
            Edges.due("vow", x.vow(1, 0, 0), 5);
            Edges.due("book", x.book(0, 1), 1);
            x.set(4, 2, 2);
            x.set(4, 3, 9);
            Edges.due("vow", x.vow(3, 2, 0), 2);
            Edges.due("book", x.book(1, 1), 2);
        });
    }

    private static void right() {
        Edges.sentence(7, "lift of SNOW (no more than there is", () -> {
            SnowRises x = couple("match 6;lift 5;");
            setSnow(x, 0, 1, 0, 4, 5, 6, 99);
            x.vow(0, 1, 0);
            snowOf(x, 0, 1, 0, 0, 0, 1, 94, -2, -2, -2, 5);
            Edges.due("NEXT", x.look(7), 4 + 5 + 5 + 5 + 75);
            Edges.due("how much", x.book(0, 3), 94);
        });
        Edges.sentence(7, "all of 8 by 7 FIELDS of 99", () -> {
            SnowRises x = new SnowRises();
            x.valley(8, 7);
            x.person(0, 5, 5, 0);
            x.person(1, 5, 5, 0);
            for (int f = 0; f < 56; f++) {
                x.set(3, f, 99);
            }
            Edges.told(x, 0, "lift 99;");
            x.vow(0, 1, 55);
            Edges.due("NEXT", x.look(7), 5544);
            Edges.due("how much", x.book(0, 3), 5544);
            Edges.due("look(16)", x.look(16), 56);
            x.part(0, 1);
            x.vow(0, 1, 0);
            Edges.due("NEXT", x.look(7), 5544);
            line(x, 2, 0, 0, 0, 0);
        });
        Edges.sentence(7, "NEXT is all of it more", () -> {
            SnowRises x = couple("match 6;lift 1;");
            x.vow(0, 1, 0);
            x.vow(3, 2, 0);
            Edges.due("NEXT", x.look(7), 40);
            line(x, 1, 0, 0, 3, 20);
        });
        Edges.sentence(7, "lift 0 of each FIELD", () -> {
            SnowRises x = couple("match 6;lift 0;");
            x.vow(0, 1, 0);
            line(x, 0, 0, 0, 0, 0);
            Edges.due("of(0, 4)", x.of(0, 4), 1);
        });
        Edges.sentence(7, "FIELDS that there are alone", () -> {
            SnowRises x = couple("match 6;lift 99;");
            x.valley(3, 3);
            x.person(0, 5, 5, 0);
            x.person(1, 5, 5, 0);
            x.vow(0, 1, 0);
            Edges.due("9 FIELDS", x.look(7), 9 * 10);
        });
    }

    /** One row or column, as the WIND goes along it: SNOW, what there is then, and what came to NEXT of it. */
    private static void drifts(String words, String law, int[] snow, int[] want, int next) {
        int[] from = {24, 0, 0, 4};
        int[] step = {-8, 1, 8, -1};
        int[] others = {16, 15, 16, 15};
        for (int wind = 0; wind < 4; wind++) {
            int w = wind;
            int length = w % 2 == 0 ? 4 : 5;
            Edges.sentence(7, words + " by WIND " + w, () -> {
                SnowRises x = couple(law);
                x.set(0, 0, w);
                for (int f = 0; f < 32; f++) {
                    x.set(3, f, 0);
                }
                // A column has one FIELD less than a row: the first one is left out, as it has none.
                for (int i = 0; i < length; i++) {
                    x.set(3, from[w] + i * step[w], snow[i + 5 - length]);
                }
                x.vow(0, 1, 0);
                for (int i = 0; i < length; i++) {
                    int f = from[w] + i * step[w];
                    Edges.due("at(" + f + ", 0)", x.at(f, 0), want[i + 5 - length]);
                }
                Edges.due("NEXT", x.look(7), next);
                int bare = others[w];
                for (int i = 5 - length; i < 5; i++) {
                    bare += want[i] == 0 ? 1 : 0;
                }
                Edges.due("all others are bare", x.look(16), bare);
            });
        }
    }

    private static void half() {
        drifts("half of its lift, downwards", "match 5;lift 7;", new int[] {0, 10, 10, 10, 10}, new int[] {0, 7, 10, 10, 10}, 3);
        drifts("half of its lift, downwards: 1", "match 5;lift 1;", new int[] {0, 10, 10, 10, 10}, new int[] {0, 10, 10, 10, 10}, 0);
        drifts("half of its lift, downwards: 2", "match 3;lift 2;", new int[] {0, 10, 10, 10, 10}, new int[] {0, 9, 10, 10, 10}, 1);
        drifts("(no more than there is)", "match 5;lift 99;", new int[] {0, 48, 49, 50, 9}, new int[] {0, 0, 48, 50, 49}, 9);
        drifts("(all asked ahead)", "match 5;lift snow;", new int[] {0, 40, 20, 10, 5}, new int[] {0, 20, 30, 15, 8}, 2);
        drifts("(all asked ahead: what comes is not there yet)", "match 5;lift 99;", new int[] {0, 9, 0, 4, 0}, new int[] {0, 0, 9, 0, 4}, 0);
        drifts("99 at most in a FIELD", "match 5;lift 60 when snow=30;lift 0;", new int[] {0, 30, 69, 30, 70}, new int[] {0, 0, 99, 0, 99}, 0);
        drifts("99 at most in a FIELD, once all came", "match 5;lift 99;", new int[] {0, 99, 99, 99, 99}, new int[] {0, 50, 99, 99, 99}, 49);
        drifts("what is above is lost", "match 5;lift 99 when snow=98;lift 2;", new int[] {0, 98, 98, 99, 99}, new int[] {0, 49, 98, 99, 99}, 1);
        Edges.sentence(7, "went on, off the fields too", () -> {
            SnowRises x = couple("match 5;lift 99 when snow=98;lift 2;");
            setSnow(x, 0, 1, 98, 98, 99, 99, 99);
            x.vow(0, 1, 0);
            Edges.due("NEXT", x.look(7), 4);
            Edges.due("how much", x.book(0, 3), 49 + 49 + 18);
        });
        int[] east = {4, 12, 20, 28};
        Edges.sentence(7, "off the fields: NEXT is so much more", () -> {
            for (int f : east) {
                SnowRises x = couple("match 4;lift 9 when far=0;lift 0;");
                x.vow(0, 1, f);
                Edges.due("NEXT from " + f, x.look(7), 4);
                Edges.due("at(" + f + ", 0)", x.at(f, 0), 6);
                if (f < 28) {
                    Edges.due("nothing comes to the next row", x.at(f + 4, 0), 10);
                }
            }
        });
    }

    private static void vows() {
        Edges.sentence(7, "They are WED to one another.", () -> {
            SnowRises x = couple("match 0;");
            Edges.due("vow(3, 0, 28)", x.vow(3, 0, 28), 0);
            Edges.due("of(3, 4)", x.of(3, 4), 0);
            Edges.due("of(0, 4)", x.of(0, 4), 3);
            Edges.due("of(1, 4)", x.of(1, 4), -1);
            line(x, 0, 0, 2, 3, 0);
            Edges.due("SNOW", x.at(28, 0), 10);
            Edges.due("NEXT", x.look(7), 0);
        });
        // rich() has 2 and 3 WED.
        int[][] bad = {{0, 2, 0}, {0, 4, 0}, {1, 5, 0}, {0, 0, 0}, {1, 1, 0}, {2, 1, 0}, {1, 2, 0}, {3, 0, 0}, {0, 3, 0}, {2, 3, 0}, {3, 2, 0},
            {-1, 1, 0}, {1, -1, 0}, {6, 1, 0}, {0, 7, 0}, {0, 6, 0}, {Edges.LEAST, 1, 0}, {0, Edges.MOST, 0}, {0, 1, -1}, {0, 1, 3}, {0, 1, 7},
            {0, 1, 32}, {0, 1, 64}, {0, 1, Edges.LEAST}, {0, 1, Edges.MOST}};
        for (int[] b : bad) {
            String call = "vow(" + b[0] + ", " + b[1] + ", " + b[2] + ")";
            Edges.sentence(7, "NONE, and nothing is done, if it can't be.", () -> Edges.refused(call, x -> x.vow(b[0], b[1], b[2]), -1));
        }
        Edges.sentence(7, "of unlike SIDES, by whomever first", () -> {
            Edges.due("vow(0, 1, 26)", Edges.rich().vow(0, 1, 26) >= 0, true);
            Edges.due("vow(1, 0, 26)", Edges.rich().vow(1, 0, 26) >= 0, true);
        });
        Edges.sentence(7, "the last of twelve", () -> {
            SnowRises x = Edges.withTempers(0, 1, 2, 3, 4, 5, 6, 7, 8, 9, 5, 5);
            Edges.due("vow(11, 10, 0)", x.vow(11, 10, 0), 9);
            Edges.due("of(10, 4)", x.of(10, 4), 11);
            Edges.due("of(11, 4)", x.of(11, 4), 10);
        });
    }

    private static void parting() {
        for (int first : new int[] {0, 3}) {
            Edges.sentence(8, "To PART two who are WED: they are so no more.", () -> {
                SnowRises x = couple("match 0;");
                x.vow(3, 0, 0);
                Edges.due("part", x.part(first, 3 - first), true);
                Edges.due("of(0, 4)", x.of(0, 4), -1);
                Edges.due("of(3, 4)", x.of(3, 4), -1);
                line(x, 1, 0, 5, 0, 0);
                Edges.due("look(15)", x.look(15), 2);
                Edges.due("part again", x.part(first, 3 - first), false);
                Edges.due("vow again", x.vow(0, 3, 0), 0);
            });
        }
        // rich() has 2 and 3 WED.
        int[][] bad = {{0, 1}, {1, 0}, {2, 2}, {3, 3}, {2, 1}, {1, 2}, {0, 3}, {3, 0}, {2, 5}, {2, -1}, {-1, 2}, {3, -1}, {0, -1}, {-1, 0},
            {-1, -1}, {6, 2}, {2, 6}, {Edges.LEAST, 2}, {2, Edges.MOST}};
        for (int[] b : bad) {
            Edges.sentence(8, "false if they are not WED to one another.", () ->
                Edges.refused("part(" + b[0] + ", " + b[1] + ")", x -> Edges.count(x.part(b[0], b[1])), 0));
        }
    }

    private static void sweeping() {
        for (int snow : new int[] {0, 1, 10, 99}) {
            Edges.sentence(9, "its SNOW is 0 (what there was is lost): how much", () -> {
                SnowRises x = new SnowRises();
                x.set(3, 28, snow);
                Edges.due("sweep(28)", x.sweep(28), snow);
                Edges.due("at(28, 0)", x.at(28, 0), 0);
                Edges.due("at(27, 0)", x.at(27, 0), 10);
                Edges.due("NEXT", x.look(7), 0);
                line(x, 0, 0, 6, 28, snow);
                Edges.due("look(15)", x.look(15), 1);
            });
        }
        for (int f : new int[] {-1, 3, 7, 11, 27, 32, 56, 64, Edges.LEAST, Edges.MOST}) {
            Edges.sentence(9, "NONE if there is no such FIELD.", () -> Edges.refused("sweep(" + f + ")", x -> x.sweep(f), -1));
        }
    }

    private static void weatherOfDays() {
        for (int snow : new int[] {0, 68, 69, 70, 99}) {
            Edges.sentence(10, "(a) Of each FIELD SNOW is that of WEATHER more (99 at most", () -> {
                SnowRises x = new SnowRises();
                Edges.told(x, 2, "for 1 snow 30;for 1 snow 0;");
                setSnow(x, 28, 1, snow);
                x.days(1);
                snowOf(x, 28, 1, Math.min(99, snow + 30));
                snowOf(x, 0, 1, 40);
                x.days(1);
                snowOf(x, 28, 1, Math.min(99, snow + 30));
            });
        }
        Edges.sentence(10, "empty: nothing)", () -> {
            SnowRises x = new SnowRises();
            x.days(60);
            snowOf(x, 0, 1, 10, 10, 10, 10, 10, -2);
            Edges.told(x, 2, "for 1 snow 3;");
            x.days(1);
            snowOf(x, 0, 1, 13);
        });
        Edges.sentence(10, "WEATHER of this DAY, ahead of its VOWS", () -> {
            SnowRises x = couple("match 6;lift 99;");
            Edges.told(x, 2, "for 1 snow 5;for 1 snow 7;");
            Edges.told(x, 1, "on 1 0 and 1 at 0;");
            x.days(2);
            Edges.due("NEXT", x.look(7), 20 * 22);
            Edges.due("look(16)", x.look(16), 20);
        });
    }

    private static void vowsOfDays() {
        Edges.sentence(10, "(b) Line by line of VOWS for this DAY: a VOW, if it can be; else VOID.", () -> {
            SnowRises x = couple("match 2;");
            Edges.told(x, 1, "on 1 2 and 1 at 0;on 0 0 and 1 at 0;on 0 2 and 1 at 0;on 0 3 and 0 at 0;on 0 1 and 0 at 0;on 0 3 and 2 at 0;on 2 0 and 1 at 0;");
            Edges.due("days(1)", x.days(1), 2);
            Edges.due("lines", x.look(8), 5);
            line(x, 0, 0, 2, 0, 0);
            line(x, 1, 0, 3, 2, 0);
            line(x, 2, 0, 3, 3, 0);
            line(x, 3, 0, 3, 4, 0);
            line(x, 4, 0, 2, 3, 0);
            Edges.due("days(1)", x.days(1), 0);
            line(x, 5, 1, 3, 0, 0);
            x.part(0, 1);
            Edges.due("who have parted can", x.days(1), 1);
            line(x, 7, 2, 2, 0, 0);
        });
        Edges.sentence(10, "of its two, at its FIELD", () -> {
            SnowRises x = couple("match 6;lift 5 when far=0;lift 0;");
            Edges.told(x, 1, "on 0 0 and 3 at 28;on 0 1 and 2 at 9;");
            Edges.due("days(1)", x.days(1), 2);
            snowOf(x, 0, 1, 10, 10, 10, 10);
            snowOf(x, 8, 1, 10, 5, 10, 10);
            snowOf(x, 24, 1, 10, 10, 10, 10, 5);
            Edges.due("of(0, 4)", x.of(0, 4), 3);
            Edges.due("of(2, 4)", x.of(2, 4), 1);
            line(x, 1, 0, 0, 1, 5);
        });
        Edges.sentence(10, "lines for this DAY, not for one gone by", () -> {
            SnowRises x = couple("match 2;");
            x.days(3);
            Edges.told(x, 1, "on 2 0 and 1 at 0;on 4 2 and 3 at 0;");
            Edges.due("days(1)", x.days(1), 0);
            Edges.due("look(8)", x.look(8), 0);
            Edges.due("days(60)", x.days(60), 1);
            Edges.due("look(8)", x.look(8), 1);
        });
        Edges.sentence(10, "a line for DAY 999", () -> {
            SnowRises x = couple("match 2;");
            Edges.told(x, 1, "on 999 0 and 1 at 0;");
            for (int i = 0; i < 16; i++) {
                x.days(60);
            }
            Edges.due("days(39)", x.days(39), 0);
            Edges.due("DAY", x.look(2), 999);
            Edges.due("days(1)", x.days(1), 1);
            line(x, 0, 999, 2, 0, 0);
        });
        Edges.sentence(10, "how many VOWS were made in them", () -> {
            SnowRises x = Edges.withLaw("match 9-apart;", 0, 9, 0, 5, 0, 0);
            Edges.told(x, 1, "on 0 0 and 1 at 0;on 0 0 and 3 at 0;on 1 2 and 3 at 0;on 2 4 and 5 at 0;on 3 4 and 5 at 0;");
            Edges.due("RIGHT, HALF and others, not VOID", x.days(4), 3);
            Edges.due("look(8)", x.look(8), 5);
        });
    }

    private static int after(int state) {
        return 1664525 * state + 1013904223;
    }

    private static int drawn(int state) {
        return (int) ((after(state) & 0xffffffffL) >> 8) % 1000;
    }

    /** A STATE from which a DRAW of 1000 is so much, the STATE behind it being below 0 or not. */
    private static int stateFor(int draw, boolean below) {
        for (int state = 0; ; state++) {
            if (drawn(state) == draw && after(state) < 0 == below) {
                return state;
            }
        }
    }

    private static void draws() {
        int[][] odds = {{0, 1, 1}, {1, 1, 0}, {0, 1000, 1}, {999, 1000, 1}, {999, 999, 0}, {998, 999, 1}, {499, 500, 1}, {500, 500, 0},
            {1, 2, 1}};
        for (int[] o : odds) {
            for (boolean below : new boolean[] {false, true}) {
                Edges.sentence(10, "a DRAW of 1000: below ODDS", () -> {
                    SnowRises x = new SnowRises();
                    int state = stateFor(o[0], below);
                    x.state(state);
                    x.set(2, 0, o[1]);
                    x.set(3, 9, 60);
                    x.days(1);
                    Edges.due("DRAW " + o[0] + ", ODDS " + o[1], x.at(9, 0), o[2] == 1 ? 30 : 60);
                    Edges.due("at(17, 0)", x.at(17, 0), o[2] == 1 ? 40 : 10);
                    Edges.due("look(8)", x.look(8), o[2]);
                    Edges.due("STATE", x.look(9), after(state));
                });
            }
        }
        Edges.sentence(10, "(c) If ODDS are above 0", () -> {
            SnowRises x = new SnowRises();
            x.state(stateFor(0, false));
            x.set(3, 9, 99);
            int state = x.look(9);
            x.days(3);
            Edges.due("STATE: no DRAW", x.look(9), state);
            Edges.due("at(9, 0)", x.at(9, 0), 99);
            Edges.due("look(8)", x.look(8), 0);
        });
        for (int steep : new int[] {1, 2, 50, 98, 99}) {
            Edges.sentence(10, "with STEEP SNOW at least", () -> {
                SnowRises x = new SnowRises();
                for (int f = 0; f < 32; f++) {
                    x.set(3, f, 0);
                }
                x.set(1, 0, steep);
                x.set(2, 0, 1000);
                x.set(3, 25, steep - 1);
                x.state(4711);
                x.days(1);
                Edges.due("STATE: no DRAW", x.look(9), 4711);
                Edges.due("at(25, 0)", x.at(25, 0), steep - 1);
                x.set(3, 25, steep);
                x.days(1);
                Edges.due("STATE: one DRAW", x.look(9), after(4711));
                Edges.due("at(25, 0)", x.at(25, 0), steep - steep / 2);
                line(x, 0, 1, 4, 25, steep / 2);
            });
        }
        Edges.sentence(10, "FIELD by FIELD (row by row)", () -> {
            SnowRises x = new SnowRises();
            int state = 0;
            while (drawn(state) >= 500 || drawn(after(state)) < 500 || drawn(after(after(state))) >= 500) {
                state++;
            }
            x.state(state);
            x.set(2, 0, 500);
            setSnow(x, 4, 1, 80);
            setSnow(x, 8, 1, 70);
            setSnow(x, 28, 1, 60);
            x.days(1);
            Edges.due("the first DRAW is of 4", x.at(4, 0), 40);
            Edges.due("the second is of 8", x.at(8, 0), 70);
            Edges.due("the third is of 28", x.at(28, 0), 30);
            Edges.due("STATE", x.look(9), after(after(after(state))));
            line(x, 0, 0, 4, 4, 40);
            line(x, 1, 0, 4, 28, 30);
        });
    }

    private static void avalanches() {
        Edges.sentence(10, "half of it goes to the one south of it", () -> {
            SnowRises x = new SnowRises();
            x.set(1, 0, 61);
            x.set(2, 0, 1000);
            x.set(0, 0, 0);
            x.set(3, 2, 61);
            x.set(3, 1, 62);
            x.days(1);
            Edges.due("downwards", x.at(2, 0), 31);
            Edges.due("at(10, 0)", x.at(10, 0), 40);
            Edges.due("at(1, 0)", x.at(1, 0), 31);
            Edges.due("at(9, 0)", x.at(9, 0), 41);
            line(x, 0, 0, 4, 1, 31);
            line(x, 1, 0, 4, 2, 30);
        });
        Edges.sentence(10, "what comes is there at the turn of the one south of it", () -> {
            SnowRises x = new SnowRises();
            x.set(2, 0, 1000);
            setSnow(x, 0, 8, 60, 30, 29, 59);
            x.days(1);
            snowOf(x, 0, 8, 30, 30, 59, 59);
            line(x, 0, 0, 4, 0, 30);
            line(x, 1, 0, 4, 8, 30);
            Edges.due("look(8)", x.look(8), 2);
        });
        for (int h : new int[] {3, 4, 7}) {
            Edges.sentence(10, "(none: it is lost", () -> {
                SnowRises x = new SnowRises();
                x.valley(3, h);
                x.set(2, 0, 1000);
                int f = 8 * h - 8;
                x.set(3, f, 99);
                x.days(1);
                Edges.due("at(" + f + ", 0)", x.at(f, 0), 50);
                Edges.due("NEXT", x.look(7), 0);
                line(x, 0, 0, 4, f, 49);
                Edges.due("at(1, 0)", x.at(1, 0), 10);
            });
        }
        for (int south : new int[] {49, 50, 51, 59}) {
            Edges.sentence(10, "99 at most there)", () -> {
                SnowRises x = new SnowRises();
                x.set(1, 0, 99);
                x.set(2, 0, 1000);
                x.set(3, 0, 99);
                x.set(3, 8, south);
                x.days(1);
                int came = Math.min(99, south + 49);
                Edges.due("at(0, 0)", x.at(0, 0), 50);
                // With 99 it is STEEP then, too.
                Edges.due("at(8, 0) of " + south, x.at(8, 0), came == 99 ? 50 : came);
                Edges.due("how much", x.book(0, 3), 49);
                Edges.due("at(16, 0)", x.at(16, 0), came == 99 ? 59 : 10);
            });
        }
        Edges.sentence(10, "behind the VOWS of the DAY", () -> {
            SnowRises x = couple("match 6;lift 1;");
            x.set(2, 0, 1000);
            x.set(3, 0, 60);
            x.set(3, 1, 61);
            Edges.told(x, 1, "on 0 0 and 1 at 0;");
            x.days(1);
            Edges.due("59 is not STEEP", x.at(0, 0), 59);
            Edges.due("60 is", x.at(1, 0), 30);
        });
        Edges.sentence(10, "behind WEATHER, ahead of what melts", () -> {
            SnowRises x = couple("melt 9;");
            x.set(2, 0, 1000);
            x.set(3, 0, 57);
            x.set(3, 1, 56);
            Edges.told(x, 2, "for 1 snow 3;");
            x.days(1);
            Edges.due("60: 30 less 9", x.at(0, 0), 21);
            Edges.due("59 less 9", x.at(1, 0), 50);
            Edges.due("13 and 30 less 9", x.at(8, 0), 34);
        });
    }

    private static void melting() {
        Edges.sentence(10, "(d) FIELD by FIELD SNOW is melt less (0 at least", () -> {
            SnowRises x = couple("melt 5;");
            setSnow(x, 0, 1, 0, 4, 5, 6, 99);
            x.days(1);
            snowOf(x, 0, 1, 0, 0, 0, 1, 94);
        });
        Edges.sentence(10, "melt of 99", () -> {
            SnowRises x = couple("melt 99;");
            setSnow(x, 28, 1, 99);
            x.days(1);
            Edges.due("all are bare", x.look(16), 20);
            Edges.due("NEXT", x.look(7), 0);
        });
        Edges.sentence(10, "asked when it is its turn", () -> {
            SnowRises x = couple("melt snow/2;match 3;lift 2;");
            Edges.told(x, 1, "on 0 0 and 1 at 0;");
            setSnow(x, 0, 1, 9, 9, 20, 20, 21);
            x.days(1);
            snowOf(x, 0, 1, 4, 5, 10, 10, 11);
            snowOf(x, 8, 1, 5);
        });
        Edges.sentence(10, "(e) DAY is one more, behind what melts", () -> {
            SnowRises x = couple("melt day;");
            x.days(1);
            Edges.due("DAY 0: melt 0", x.at(0, 0), 10);
            x.days(1);
            Edges.due("DAY 1: melt 1", x.at(0, 0), 9);
            Edges.due("look(2)", x.look(2), 2);
        });
    }

    private static SnowRises onDay(int day) {
        SnowRises x = new SnowRises();
        for (int i = 0; i < day / 60; i++) {
            x.days(60);
        }
        if (day % 60 > 0) {
            x.days(day % 60);
        }
        return x;
    }

    private static void days() {
        for (int n : new int[] {1, 2, 59, 60}) {
            Edges.sentence(10, "DAYS go by (1 .. 60)", () -> {
                SnowRises x = new SnowRises();
                Edges.due("days(" + n + ")", x.days(n), 0);
                Edges.due("DAY", x.look(2), n);
                Edges.due("what can be undone", x.look(15), Math.min(n, 6));
            });
        }
        for (int n : new int[] {0, -1, 61, 100, Edges.LEAST, Edges.MOST}) {
            Edges.sentence(10, "NONE, and nothing is done, if one can't be", () -> Edges.refused("days(" + n + ")", x -> x.days(n), -1));
        }
        int[][] ends = {{9939, 60, 1}, {9940, 60, 0}, {9940, 59, 1}, {9998, 1, 1}, {9998, 2, 0}, {9999, 1, 0}, {9999, 60, 0}};
        for (int[] e : ends) {
            Edges.sentence(10, "or DAY would be above 9999.", () -> {
                SnowRises x = onDay(e[0]);
                Edges.due("days(" + e[1] + ") on DAY " + e[0], x.days(e[1]), e[2] - 1);
                Edges.due("DAY", x.look(2), e[2] == 1 ? 9999 : e[0]);
                Edges.due("what can be undone", x.look(15), 6);
                Edges.due("undo", x.undo(), true);
                Edges.due("DAY", x.look(2), e[2] == 1 ? 9998 : e[0] - 1);
            });
        }
    }

    private static SnowRises fullBook(int lines) {
        SnowRises x = Edges.withTempers(5, 5, 5, 5);
        Edges.told(x, 0, "match 2;");
        for (int i = 0; i < lines; i++) {
            x.sweep(i % 5);
        }
        return x;
    }

    private static void book() {
        Edges.sentence(20, "THE BOOK (150 lines; no more then)", () -> {
            SnowRises x = fullBook(149);
            Edges.due("look(8)", x.look(8), 149);
            Edges.due("book(149, 0)", x.book(149, 0), -1);
            x.sweep(28);
            Edges.due("look(8)", x.look(8), 150);
            line(x, 149, 0, 6, 28, 10);
            Edges.due("sweep is done all the same", x.sweep(27), 10);
            Edges.due("at(27, 0)", x.at(27, 0), 0);
            Edges.due("look(8)", x.look(8), 150);
            line(x, 149, 0, 6, 28, 10);
            line(x, 150, -1, -1, -1, -1);
        });
        Edges.sentence(20, "no line of any kind more", () -> {
            SnowRises x = fullBook(150);
            x.set(2, 0, 1000);
            x.set(3, 28, 99);
            Edges.told(x, 1, "on 0 0 and 3 at 0;");
            Edges.due("vow", x.vow(0, 1, 0), 2);
            Edges.due("days", x.days(1), 0);
            Edges.due("the avalanche was", x.at(28, 0), 50);
            Edges.due("part", x.part(0, 1), true);
            Edges.due("of(0, 4)", x.of(0, 4), -1);
            Edges.due("look(8)", x.look(8), 150);
            Edges.due("look(15)", x.look(15), 3);
            for (int i = 0; i < 3; i++) {
                Edges.due("undo", x.undo(), true);
                Edges.due("look(8)", x.look(8), 150);
            }
            line(x, 149, 0, 6, 4, 0);
        });
        Edges.sentence(20, "full within a DAY", () -> {
            SnowRises x = fullBook(149);
            Edges.told(x, 1, "on 0 0 and 1 at 0;on 0 0 and 3 at 0;on 0 2 and 3 at 0;");
            Edges.due("days(1)", x.days(1), 2);
            Edges.due("look(8)", x.look(8), 150);
            line(x, 149, 0, 2, 0, 0);
            x.undo();
            Edges.due("look(8) undone", x.look(8), 149);
            Edges.due("book(149, 0)", x.book(149, 0), -1);
        });
        Edges.sentence(20, "DAY, what, first, how much of each kind", () -> {
            SnowRises x = Edges.withLaw("match 9-apart;lift 3;", 5, 5, 5, 9, 0, 9);
            x.days(7);
            x.vow(1, 0, 0);
            x.vow(2, 3, 0);
            x.vow(5, 4, 0);
            Edges.told(x, 1, "on 7 0 and 1 at 0;");
            x.set(2, 0, 1000);
            x.set(3, 10, 81);
            x.days(1);
            x.part(3, 2);
            x.sweep(18);
            line(x, 0, 7, 0, 1, 60);
            line(x, 1, 7, 1, 2, 20);
            line(x, 2, 7, 2, 5, 0);
            line(x, 3, 7, 3, 0, 0);
            line(x, 4, 7, 4, 10, 40);
            line(x, 5, 8, 5, 2, 0);
            line(x, 6, 8, 6, 18, 7 + 40);
        });
        int[][] bad = {{-1, 0}, {Edges.LEAST, 0}, {Edges.MOST, 3}, {150, 0}, {0, -1}, {0, 4}, {0, Edges.LEAST}, {0, Edges.MOST}, {-1, -1}};
        for (int[] b : bad) {
            Edges.sentence(20, "NONE if there is none such, or another what.", () ->
                Edges.refused("book(" + b[0] + ", " + b[1] + ")", x -> x.book(b[0], b[1]), -1));
        }
        Edges.sentence(20, "none such: behind the last line", () -> {
            SnowRises x = Edges.rich();
            int lines = x.look(8);
            for (int what = 0; what < 4; what++) {
                Edges.due("the last", x.book(lines - 1, what) >= 0, true);
                Edges.due("behind it", x.book(lines, what), -1);
                Edges.due("of a new object", new SnowRises().book(0, what), -1);
            }
        });
    }

    public static void main(String[] args) {
        kinds();
        right();
        half();
        vows();
        parting();
        sweeping();
        weatherOfDays();
        vowsOfDays();
        draws();
        avalanches();
        melting();
        days();
        book();
        Edges.end();
    }
}
