import java.nio.charset.StandardCharsets;

/** Promise by promise: ordinary calls, the edges that the document names, and what can't be. */
public final class PromisesTest {
    private static int wrong = 0;
    private static int checks = 0;

    private static void due(int promise, String what, long got, long want) {
        checks++;
        if (got != want) {
            wrong++;
            System.out.println("promise " + promise + ": " + what + " answered " + got + ", due is " + want);
        }
    }

    private static void due(int promise, String what, boolean got, boolean want) {
        due(promise, what, got ? 1L : 0L, want ? 1L : 0L);
    }

    private static void feedAll(SnowRises x, String text) {
        byte[] b = text.getBytes(StandardCharsets.ISO_8859_1);
        for (int i = 0; i < b.length; i += 20) {
            int[] five = new int[5];
            for (int j = 0; j < 20; j++) {
                five[j / 4] = five[j / 4] << 8 | (i + j < b.length ? b[i + j] & 255 : 32);
            }
            x.feed(five[0], five[1], five[2], five[3], five[4]);
        }
        x.end(b.length);
    }

    private static int told(SnowRises x, int k, String text) {
        feedAll(x, text);
        return x.text(k);
    }

    /** Two of each SIDE: 0 and 2 of SIDE 0, 1 and 3 of SIDE 1. */
    private static SnowRises withFour() {
        SnowRises x = new SnowRises();
        x.person(0, 5, 3, 0);
        x.person(1, 5, 4, 1);
        x.person(0, 2, 0, 2);
        x.person(1, 9, 7, 3);
        return x;
    }

    private static void faulty(SnowRises x, int k, String text, int fault, int place) {
        due(13, "text " + k + " '" + text + "'", told(x, k, text), -1);
        due(14, "fault(0) of '" + text + "'", x.fault(0), fault);
        due(14, "fault(1) of '" + text + "'", x.fault(1), place);
    }

    private static void newObject() {
        SnowRises x = new SnowRises();
        int[] first = {5, 4, 0, 1, 60, 0, 0, 0, 0, 0, 0, 0, 0, 0, 0, 0, 0};
        for (int what = 0; what < first.length; what++) {
            due(1, "look(" + what + ")", x.look(what), first[what]);
        }
        due(1, "at(28, 0)", x.at(28, 0), 10);
        due(1, "at(29, 0)", x.at(29, 0), -2);
        due(1, "fault(0)", x.fault(0), 0);
        due(1, "fault(1)", x.fault(1), -1);
        due(1, "undo()", x.undo(), false);
        due(1, "image(false)", x.image(false), false);
        due(1, "NONE", SnowRises.NONE, -1);
    }

    private static void state() {
        SnowRises x = new SnowRises();
        due(2, "state(7)", x.state(7), 0);
        due(2, "state(-5)", x.state(-5), 7);
        due(2, "look(9)", x.look(9), -5);
        x.sweep(0);
        x.state(0);
        due(2, "what can be undone behind state", x.look(15), 0);
    }

    private static void valley() {
        SnowRises x = withFour();
        x.state(9);
        told(x, 0, "melt 1;");
        told(x, 1, "on 1 0 and 1 at 0;");
        told(x, 2, "for 1 snow 1;");
        told(x, 3, "bare 0 on 1 worth 1;");
        x.stir(0, 1, true);
        x.set(0, 0, 3);
        x.set(1, 0, 9);
        x.set(2, 0, 9);
        x.vow(0, 1, 0);
        x.days(2);
        x.image(true);
        told(x, 0, "melt;");
        x.feed(1, 2, 3, 4, 5);
        int state = x.look(9);
        for (int[] bad : new int[][] {{2, 3}, {9, 3}, {3, 2}, {3, 8}, {-1, -1}}) {
            due(3, "valley(" + bad[0] + ", " + bad[1] + ")", x.valley(bad[0], bad[1]), false);
        }
        due(3, "look(6) behind a false one", x.look(6), 4);
        due(3, "look(15) behind a false one", x.look(15), 3);
        due(3, "valley(8, 7)", x.valley(8, 7), true);
        int[] first = {8, 7, 0, 1, 60, 0, 0, 0, 0, state, 0, 0, 0, 0, 0, 0, 0};
        for (int what = 0; what < first.length; what++) {
            due(3, "look(" + what + ") told anew", x.look(what), first[what]);
        }
        due(3, "at(55, 0)", x.at(55, 0), 10);
        due(3, "the TAPE stays", x.feed(1, 2, 3, 4, 5), 40);
        due(3, "fault() stays", x.fault(1), 4);
        due(3, "THE IMAGE stays", x.image(false), true);
        due(3, "look(0) of THE IMAGE", x.look(0), 5);
        due(3, "valley(3, 3)", x.valley(3, 3), true);
        due(3, "at(3, 0)", x.at(3, 0), -2);
        due(3, "at(24, 0)", x.at(24, 0), -2);
        due(3, "at(18, 0)", x.at(18, 0), 10);
    }

    private static void person() {
        SnowRises x = new SnowRises();
        int[][] bad = {{-1, 0, 0, 0}, {2, 0, 0, 0}, {0, -1, 0, 0}, {0, 10, 0, 0}, {0, 0, -1, 0}, {0, 0, 10, 0}, {0, 0, 0, 5},
            {0, 0, 0, -1}, {0, 0, 0, 32}};
        for (int[] b : bad) {
            due(4, "person that can't be", x.person(b[0], b[1], b[2], b[3]), -1);
        }
        x.sweep(0);
        for (int i = 0; i < 12; i++) {
            due(4, "person " + i, x.person(i % 2, 9, i % 10, 28), i);
            due(4, "what can be undone behind person", x.look(15), 0);
        }
        x.sweep(0);
        due(4, "a thirteenth", x.person(0, 0, 0, 0), -1);
        due(4, "what can be undone behind none", x.look(15), 1);
        due(4, "look(6)", x.look(6), 12);
    }

    private static void set() {
        SnowRises x = withFour();
        int[][] good = {{0, -7, 0}, {0, 99, 3}, {1, -7, 1}, {1, 99, 99}, {2, -7, 0}, {2, 99, 1000}, {3, 28, 0}, {3, 28, 99},
            {4, 3, 0}, {4, 3, 9}, {5, 3, 0}, {5, 3, 9}};
        for (int[] g : good) {
            x.sweep(0);
            due(5, "set(" + g[0] + ", " + g[1] + ", " + g[2] + ")", x.set(g[0], g[1], g[2]), true);
            due(5, "what can be undone behind set", x.look(15), 0);
        }
        due(5, "WIND", x.look(3), 3);
        due(5, "STEEP", x.look(4), 99);
        due(5, "ODDS", x.look(5), 1000);
        due(5, "SNOW", x.at(28, 0), 99);
        due(5, "TEMPER", x.of(3, 1), 9);
        due(5, "HOPE", x.of(3, 2), 9);
        x.sweep(0);
        int[][] bad = {{0, 0, -1}, {0, 0, 4}, {1, 0, 0}, {1, 0, 100}, {2, 0, -1}, {2, 0, 1001}, {3, 29, 1}, {3, -1, 1}, {3, 0, -1},
            {3, 0, 100}, {4, 4, 1}, {4, -1, 1}, {4, 0, 10}, {4, 0, -1}, {5, 4, 1}, {5, -1, 1}, {5, 0, 10}, {5, 0, -1}, {6, 0, 1}, {-1, 0, 1}};
        for (int[] b : bad) {
            due(5, "set(" + b[0] + ", " + b[1] + ", " + b[2] + ")", x.set(b[0], b[1], b[2]), false);
        }
        due(5, "what can be undone behind none", x.look(15), 1);
    }

    private static void kin() {
        SnowRises x = withFour();
        x.sweep(0);
        due(6, "kin(1, 1)", x.kin(1, 1, true), false);
        due(6, "kin(1, 4)", x.kin(1, 4, true), false);
        due(6, "kin(-1, 1)", x.kin(-1, 1, true), false);
        due(6, "what can be undone behind none", x.look(15), 1);
        due(6, "kin(3, 1)", x.kin(3, 1, true), true);
        due(6, "what can be undone behind kin", x.look(15), 0);
        due(6, "kin(0, 1)", x.kin(0, 1, true), true);
        due(6, "of(1, 5)", x.of(1, 5), 9);
        due(6, "of(3, 5)", x.of(3, 5), 2);
        due(6, "kin(1, 3, false)", x.kin(1, 3, false), true);
        due(6, "of(1, 5)", x.of(1, 5), 1);
        due(6, "of(3, 5)", x.of(3, 5), 0);
    }

    private static void vow() {
        SnowRises x = withFour();
        due(7, "a field that there is not", x.vow(0, 1, 5), -1);
        due(7, "like SIDES", x.vow(0, 2, 0), -1);
        due(7, "alike", x.vow(0, 0, 0), -1);
        due(7, "none such", x.vow(0, 4, 0), -1);
        due(7, "none such", x.vow(-1, 1, 0), -1);
        due(7, "look(15)", x.look(15), 0);
        due(7, "look(8)", x.look(8), 0);
        // FOUND 9: lift is 18 less far, so all 10 go up everywhere.
        due(7, "RIGHT", x.vow(1, 0, 0), 9);
        due(7, "NEXT", x.look(7), 200);
        due(7, "look(16)", x.look(16), 20);
        due(7, "book", x.book(0, 1) * 1000 + x.book(0, 3), 200);
        due(7, "first", x.book(0, 2), 1);
        due(7, "WED", x.of(0, 4), 1);
        due(7, "WED", x.of(1, 4), 0);
        due(7, "one who is WED", x.vow(0, 3, 0), -1);
        due(7, "one who is WED", x.vow(2, 1, 0), -1);
        due(7, "another one", x.vow(2, 3, 0), 2);
        due(7, "book", x.book(1, 1), 2);
        due(7, "how much", x.book(1, 3), 0);
        due(7, "WED all the same", x.of(2, 4), 3);
    }

    private static void vowBounds() {
        for (int found = 0; found <= 9; found++) {
            SnowRises x = withFour();
            told(x, 0, "match " + found + ";");
            due(7, "FOUND", x.vow(0, 1, 0), found);
            due(7, "what by FOUND " + found, x.book(0, 1), found >= 6 ? 0 : found >= 3 ? 1 : 2);
        }
        SnowRises x = withFour();
        told(x, 0, "match 3;lift snow;");
        // North: row y gives the half of its SNOW, downwards, to row y - 1, the first row to NEXT.
        x.set(0, 0, 0);
        x.set(3, 0, 7);
        x.set(3, 8, 99);
        x.set(3, 16, 99);
        due(7, "HALF", x.vow(0, 1, 28), 3);
        due(7, "at(0, 0)", x.at(0, 0), 4 + 49);
        due(7, "at(8, 0): what is above 99 is lost once all came", x.at(8, 0), 50 + 49);
        due(7, "at(16, 0)", x.at(16, 0), 50 + 5);
        due(7, "at(24, 0)", x.at(24, 0), 5);
        due(7, "NEXT", x.look(7), 3 + 4 * 5);
        due(7, "went on", x.book(0, 3), 3 + 49 + 49 + 17 * 5);

        SnowRises y = withFour();
        told(y, 0, "match 4;lift 99;");
        y.set(0, 0, 2);
        y.set(3, 0, 99);
        y.set(3, 8, 99);
        y.set(3, 16, 20);
        y.vow(0, 1, 0);
        // 49 of each 99 go on; of 20 and 10 all goes.
        due(7, "99 at most", y.at(8, 0), 99);
        due(7, "at(0, 0)", y.at(0, 0), 50);
        due(7, "at(16, 0)", y.at(16, 0), 49);
        due(7, "at(24, 0)", y.at(24, 0), 20);
        due(7, "NEXT", y.look(7), 50);
        SnowRises lost = withFour();
        told(lost, 0, "match 5;lift 99 when far=0;lift 30 when far=2;lift 0;");
        lost.set(3, 8, 99);
        lost.set(3, 9, 90);
        lost.set(3, 10, 95);
        lost.vow(0, 1, 8);
        // 49 come to 90: what is above 99 is lost; 15 go from 95, and nothing comes there.
        due(7, "above 99", lost.at(9, 0), 99);
        due(7, "at(10, 0)", lost.at(10, 0), 80);
        due(7, "at(11, 0)", lost.at(11, 0), 25);
        due(7, "what was lost went on, too", lost.book(0, 3), 49 + 15 + 3 * 10);
        due(7, "NEXT", lost.look(7), 0);
        SnowRises z = withFour();
        told(z, 0, "match 4;lift 99;");
        z.set(0, 0, 3);
        z.set(3, 1, 99);
        z.set(3, 2, 99);
        z.set(3, 0, 99);
        z.vow(0, 1, 0);
        due(7, "west", z.at(0, 0), 50 + 49);
        due(7, "west", z.at(1, 0), 50 + 49);
        due(7, "west", z.at(2, 0), 50 + 10);
        due(7, "west", z.look(7), 49 + 30);
    }

    private static void part() {
        SnowRises x = withFour();
        due(8, "not WED", x.part(0, 1), false);
        x.vow(2, 1, 0);
        due(8, "not to one another", x.part(0, 1), false);
        due(8, "none such", x.part(1, -1), false);
        due(8, "none such", x.part(0, -1), false);
        due(8, "none such", x.part(4, 1), false);
        due(8, "alike", x.part(1, 1), false);
        due(8, "look(8)", x.look(8), 1);
        due(8, "part(2, 1)", x.part(2, 1), true);
        due(8, "of(1, 4)", x.of(1, 4), -1);
        due(8, "of(2, 4)", x.of(2, 4), -1);
        due(8, "book what", x.book(1, 1), 5);
        due(8, "the lesser", x.book(1, 2), 1);
        due(8, "how much", x.book(1, 3), 0);
        due(8, "once more", x.part(2, 1), false);
        due(8, "can wed again", x.vow(0, 1, 0), 9);
    }

    private static void sweep() {
        SnowRises x = new SnowRises();
        due(9, "no such FIELD", x.sweep(5), -1);
        due(9, "no such FIELD", x.sweep(-1), -1);
        due(9, "look(15)", x.look(15), 0);
        x.set(3, 9, 42);
        due(9, "sweep(9)", x.sweep(9), 42);
        due(9, "at(9, 0)", x.at(9, 0), 0);
        due(9, "NEXT: it is lost", x.look(7), 0);
        due(9, "book", x.book(0, 1) * 10000 + x.book(0, 2) * 100 + x.book(0, 3), 60942);
        due(9, "bare already", x.sweep(9), 0);
        due(9, "look(8)", x.look(8), 2);
    }

    private static void days() {
        SnowRises x = withFour();
        due(10, "days(0)", x.days(0), -1);
        due(10, "days(61)", x.days(61), -1);
        due(10, "days(-1)", x.days(-1), -1);
        due(10, "DAY", x.look(2), 0);
        told(x, 0, "melt day+snow/10;");
        told(x, 2, "for 1 snow 30;for 1 snow 0;");
        told(x, 1, "on 1 0 and 1 at 0;on 0 2 and 3 at 0;on 0 2 and 1 at 0;on 1 2 and 1 at 9;");
        // DAY 0: 40; line 1 is FOUND 2, nothing; line 2 is VOID; melt 0 + 4.
        due(10, "days(1)", x.days(1), 1);
        due(10, "at(28, 0)", x.at(28, 0), 36);
        due(10, "book", x.book(0, 1) * 10 + x.book(0, 2), 22);
        due(10, "VOID", x.book(1, 1) * 10 + x.book(1, 2), 32);
        due(10, "VOID's how much", x.book(1, 3), 0);
        due(10, "look(8)", x.look(8), 2);
        // DAY 1: 36; line 0 is RIGHT: 18 less 7; 25; line 3 is VOID; melt 1 + 2.
        due(10, "days(1)", x.days(1), 1);
        due(10, "at(28, 0)", x.at(28, 0), 22);
        due(10, "book", x.book(2, 0) * 100 + x.book(2, 1) * 10 + x.book(2, 2), 100);
        due(10, "VOID", x.book(3, 0) * 100 + x.book(3, 1) * 10 + x.book(3, 2), 133);
        // DAY 2: 52; melt 2 + 5.
        due(10, "days(1)", x.days(1), 0);
        due(10, "at(28, 0)", x.at(28, 0), 45);
        due(10, "days(60)", x.days(60), 0);
        due(10, "DAY", x.look(2), 63);
        due(10, "0 at least", x.at(28, 0), 0);
    }

    private static void lastDay() {
        SnowRises x = new SnowRises();
        for (int i = 0; i < 166; i++) {
            x.days(60);
        }
        due(10, "DAY", x.look(2), 9960);
        due(10, "days(40)", x.days(40), -1);
        due(10, "days(39)", x.days(39), 0);
        due(10, "DAY", x.look(2), 9999);
        due(10, "days(1)", x.days(1), -1);
        due(10, "DAY", x.look(2), 9999);
        due(21, "lies in thought", x.lies(0, 3), 10);
    }

    private static void avalanches() {
        SnowRises x = new SnowRises();
        x.set(1, 0, 50);
        x.set(2, 0, 1000);
        x.set(3, 0, 61);
        x.set(3, 8, 20);
        x.set(3, 27, 51);
        x.set(3, 28, 49);
        x.days(1);
        // 61: 30 go down to 20, which makes 50: 25 go down from there; 51: 25 are lost.
        due(10, "at(0, 0)", x.at(0, 0), 31);
        due(10, "at(8, 0)", x.at(8, 0), 25);
        due(10, "at(16, 0)", x.at(16, 0), 35);
        due(10, "at(27, 0)", x.at(27, 0), 26);
        due(10, "at(28, 0)", x.at(28, 0), 49);
        due(10, "look(8)", x.look(8), 3);
        due(10, "book 0", x.book(0, 1) * 10000 + x.book(0, 2) * 100 + x.book(0, 3), 40030);
        due(10, "book 1", x.book(1, 1) * 10000 + x.book(1, 2) * 100 + x.book(1, 3), 40825);
        due(10, "book 2", x.book(2, 1) * 10000 + x.book(2, 2) * 100 + x.book(2, 3), 42725);
        due(10, "NEXT", x.look(7), 0);
        // Three DRAWS from 0.
        int state = 0;
        for (int i = 0; i < 3; i++) {
            state = 1664525 * state + 1013904223;
        }
        due(10, "STATE", x.look(9), state);
        SnowRises y = new SnowRises();
        y.set(1, 0, 50);
        y.set(3, 0, 99);
        y.set(3, 8, 90);
        // The first DRAW from 0 is 1013904223 >>> 8, modulo 1000: 563.
        y.set(2, 0, 563);
        y.days(1);
        due(10, "not below ODDS", y.at(0, 0), 99);
        y.state(0);
        y.set(3, 8, 90);
        y.set(2, 0, 564);
        y.set(1, 0, 99);
        y.days(1);
        due(10, "below ODDS", y.at(0, 0), 50);
        SnowRises z = new SnowRises();
        z.set(1, 0, 10);
        z.days(1);
        due(10, "no ODDS, no DRAW", z.look(9), 0);
    }

    private static void tape() {
        SnowRises x = new SnowRises();
        due(12, "end(1) of none", x.end(1), false);
        due(12, "end(0) of none", x.end(0), true);
        for (int i = 1; i <= 20; i++) {
            due(11, "feed " + i, x.feed(0x20202020, 0x20202020, 0x20202020, 0x20202020, 0x20202020), 20 * i);
        }
        due(11, "more than 400", x.feed(0, 0, 0, 0, 0), -1);
        due(12, "end(401)", x.end(401), false);
        due(12, "end(-1)", x.end(-1), false);
        due(12, "end(381)", x.end(381), true);
        due(11, "more than 400", x.feed(0, 0, 0, 0, 0), -1);
        due(12, "end(380)", x.end(380), true);
        due(11, "400", x.feed(0x6d656c74, 0x20313b6d, 0x656c7420, 0x323b6d65, 0x6c742033), 400);
        // "melt 1;melt 2;melt 3" behind 380 blanks, cut behind the first line.
        due(12, "end(394)", x.end(394), true);
        due(13, "text(0)", x.text(0), 2);
        due(12, "end(1): the TAPE is empty", x.end(1), false);
        due(13, "at(0, 1)", x.at(0, 1), 1);
    }

    private static void texts() {
        SnowRises x = withFour();
        due(13, "law", told(x, 0, "match 1;lift\n2;melt 3 when not(1=2)and 1<2 or 2>3;"), 3);
        due(13, "at(0, 1)", x.at(0, 1), 3);
        faulty(x, 0, "melt 4;melt", 1, 11);
        due(13, "THE LAW stays", x.at(0, 1), 3);
        due(13, "look(10)", x.look(10), 3);
        feedAll(x, "melt 5;");
        due(13, "no such TEXT", x.text(4), -1);
        due(14, "fault(0)", x.fault(0), 0);
        due(14, "fault(1)", x.fault(1), -1);
        due(13, "the TAPE is empty", x.end(1), false);
        due(13, "no such TEXT", x.text(-1), -1);
        faulty(x, 0, "x", 1, 0);
        due(14, "fault(2)", x.fault(2), -1);
        due(14, "fault(-1)", x.fault(-1), -1);
        due(13, "empty", x.text(0), 0);
        due(14, "fault(0) of none", x.fault(0), 0);
        due(14, "fault(1) of none", x.fault(1), -1);
        due(13, "look(10)", x.look(10), 0);
        due(13, "blanks", told(x, 3, "  \n "), 0);
        due(13, "vows", told(x, 1, "on 0 0 and 1 at 0;on 999 3 and 2 at 28;"), 2);
        due(13, "weather", told(x, 2, "for 1 snow 0;for 60snow 30;"), 2);
        due(13, "wants", told(x, 3, "bare 0 on 0 worth 1;bare 28 on 999 worth 99;"), 2);
        due(13, "look(11)", x.look(11), 2);
        due(13, "look(12)", x.look(12), 2);
        due(13, "look(13)", x.look(13), 2);
    }

    private static void faults() {
        SnowRises x = withFour();
        faulty(x, 0, "matchx 1;", 1, 0);
        faulty(x, 0, "Match 1;", 1, 0);
        for (String letter : new String[] {"a", "z", "A", "Z"}) {
            faulty(x, 0, "match" + letter + " 1;", 1, 0);
        }
        for (String none : new String[] {"`", "{", "@", "[", "_", "\u00e9", "\u0000", "\r"}) {
            faulty(x, 0, "match" + none + " 1;", 1, 5);
        }
        faulty(x, 0, "match 1" + "+1".repeat(196) + "/", 1, 400);
        faulty(x, 3, "+".repeat(400), 1, 0);
        faulty(x, 0, "match 1 ,", 1, 8);
        faulty(x, 0, "match\t1;", 1, 5);
        faulty(x, 0, "match 1 2;", 1, 8);
        faulty(x, 0, "match (1);", 1, 6);
        faulty(x, 0, "match -1;", 1, 6);
        faulty(x, 0, "match 1+;", 1, 8);
        faulty(x, 0, "match 1/hope;", 1, 8);
        faulty(x, 0, "match 1/00;", 2, 8);
        faulty(x, 0, "match 1/00000;", 1, 8);
        faulty(x, 0, "match 1 when;", 1, 12);
        faulty(x, 0, "match 1 when 1<2<3;", 1, 16);
        faulty(x, 0, "match 1 when (1<2;", 1, 17);
        faulty(x, 0, "match 1 when 1<2);", 1, 16);
        faulty(x, 0, "match 1 when (1)<2;", 1, 15);
        faulty(x, 0, "match 1 when 1<2 and;", 1, 20);
        faulty(x, 0, "match 1 when not;", 1, 16);
        faulty(x, 0, "match on;", 1, 6);
        faulty(x, 0, ";", 1, 0);
        faulty(x, 0, "match 1 ", 1, 8);
        due(13, "eight open", told(x, 0, "melt 1 when not(not(not(not(1=1))));"), 1);
        faulty(x, 0, "melt 1 when not(not(not(not((1=1)))));", 3, 28);
        due(13, "closed ones don't count", told(x, 0, "melt 1 when not not not not not not not not 1=1 and not 1=1 or(((((((((1=1;"), -1);
        due(14, "the ninth (", x.fault(0) * 1000 + x.fault(1), 3000 + 70);
        StringBuilder s = new StringBuilder();
        for (int i = 0; i < 16; i++) {
            s.append("lift ").append(i).append(";");
        }
        due(13, "sixteen lines", told(x, 0, s.toString()), 16);
        due(13, "the fifteenth and the sixteenth", told(x, 0, "lift 0;".repeat(14) + "match 7 when 1>1;match 8 when 1=1;"), 16);
        due(16, "the sixteenth", x.match(0, 1, true), 8);
        faulty(x, 0, s + "melt", 3, s.length());
        faulty(x, 0, s + "when", 1, s.length());
        faulty(x, 1, "on 0 0 and 1 at 0", 1, 17);
        faulty(x, 1, "on 0 4 and 1 at 0;", 2, 5);
        faulty(x, 1, "on 0 0 and 0 at 0;", 2, 11);
        faulty(x, 1, "on 1000 4 and 1 at 0;", 2, 3);
        faulty(x, 1, "on 0 0 or 1 at 0;", 1, 7);
        faulty(x, 1, "on 0 0 and 1 at 32;", 2, 16);
        faulty(x, 2, "for 0 snow 1;", 2, 4);
        faulty(x, 2, "for 61 snow 1;", 2, 4);
        faulty(x, 2, "for 60 snow 31;", 2, 12);
        faulty(x, 2, "for 60 bare 30;", 1, 7);
        faulty(x, 3, "bare 5 on 0 worth 1;", 2, 5);
        faulty(x, 3, "bare 0 on 1000 worth 1;", 2, 10);
        faulty(x, 3, "bare 0 on 0 worth 0;", 2, 18);
        faulty(x, 3, "bare 0 on 0 worth 100;", 2, 18);
        faulty(x, 3, "bare 0 on 0;", 1, 11);
        StringBuilder w = new StringBuilder();
        StringBuilder b = new StringBuilder();
        StringBuilder v = new StringBuilder();
        for (int i = 0; i < 12; i++) {
            w.append("for 1 snow 1;");
            b.append("bare 0 on 0 worth 1;");
        }
        for (int i = 0; i < 16; i++) {
            v.append("on 0 0 and 1 at 0;");
        }
        due(13, "twelve of WEATHER", told(x, 2, w.toString()), 12);
        faulty(x, 2, w + "for", 3, w.length());
        due(13, "twelve of WANTS", told(x, 3, b.toString()), 12);
        faulty(x, 3, b + "bare", 3, b.length());
        due(13, "sixteen of VOWS", told(x, 1, v.toString()), 16);
        faulty(x, 1, v + "on", 3, v.length());
        faulty(x, 1, v + "at", 1, v.length());
    }

    private static void lawTells() {
        SnowRises x = withFour();
        String[] texts = {"match 2+3*2;", "match 9-3-2;", "match 20/3/2;", "match 7*2/3;", "match 0-7/2+5;", "match 0-5;", "match 10;",
            "match temper;", "match hope;", "match other;", "match wish;", "match kin+3;", "match apart;", "match far;", "match snow;",
            "match found;", "match day;", "match 9999*9999*9999*9999;", "match 1 when 1>1;match 2 when 1<1 or 2=2 and 1=1;match 3;",
            "match 4 when 1=1 or 1=1 and 1=2;match 5;", "match 4 when (1=1 or 1=1) and 1=2;match 5;", "match 4 when not 1=1 or 1=1;match 5;",
            "match 1 when 1=2;", "lift 9;melt 9;", "match 4 when not not 1=1 and not(1=2 and 1=1);match 5;"};
        int wraps = 9999 * 9999 * 9999 * 9999;
        int[] want = {8, 4, 3, 4, 2, 0, 9, 2, 0, 9, 7, 3, 7, 0, 0, 0, 2, Math.max(0, Math.min(9, wraps)), 2, 4, 5, 4, 2, 2, 4};
        x.days(2);
        for (int i = 0; i < texts.length; i++) {
            told(x, 0, texts[i]);
            due(16, "match(2, 3, false) by " + texts[i], x.match(2, 3, false), want[i]);
        }
        told(x, 0, "match kin+3;lift kin*10+apart;");
        x.kin(3, 2, true);
        due(16, "match of kin", x.match(2, 3, false), 4);
        due(18, "lift of kin", x.lift(2, 3, 0, 0), 17);
        told(x, 0, "match temper;");
        due(16, "match(3, 2, false)", x.match(3, 2, false), 9);
        due(16, "match(3, 2, true)", x.match(3, 2, true), 2);
        due(16, "match(0, 2, true) of like SIDES", x.match(0, 2, true), 2);
        due(16, "alike", x.match(2, 2, false), -1);
        due(16, "alike", x.match(2, 2, true), -1);
        due(16, "none such", x.match(2, 4, false), -1);
        due(16, "none such", x.match(-1, 2, false), -1);
    }

    private static void of() {
        SnowRises x = withFour();
        x.vow(0, 3, 0);
        x.kin(0, 3, true);
        int[] want = {1, 9, 7, 3, 0, 1};
        for (int what = 0; what < 6; what++) {
            due(15, "of(3, " + what + ")", x.of(3, what), want[what]);
        }
        due(15, "not WED", x.of(1, 4), -1);
        due(15, "of(3, 6)", x.of(3, 6), -2);
        due(15, "of(3, -1)", x.of(3, -1), -2);
        due(15, "of(4, 0)", x.of(4, 0), -2);
        due(15, "of(-1, 0)", x.of(-1, 0), -2);
    }

    private static void at() {
        SnowRises x = withFour();
        x.set(3, 9, 33);
        told(x, 0, "melt snow*2+temper+found+day when snow>1;");
        due(17, "at(9, 0)", x.at(9, 0), 33);
        due(17, "at(9, 1)", x.at(9, 1), 66);
        x.days(1);
        x.set(3, 9, 50);
        due(17, "held to 99", x.at(9, 1), 99);
        x.set(3, 9, 1);
        due(17, "none", x.at(9, 1), 0);
        due(17, "at(9, 2)", x.at(9, 2), -2);
        due(17, "at(9, -1)", x.at(9, -1), -2);
        due(17, "at(5, 0)", x.at(5, 0), -2);
        due(17, "at(-1, 0)", x.at(-1, 0), -2);
        due(17, "at(64, 0)", x.at(64, 0), -2);
    }

    private static void lift() {
        SnowRises x = withFour();
        due(18, "found times 2 less far", x.lift(0, 1, 0, 28), 18 - 7);
        due(18, "0 at least", x.lift(2, 3, 0, 28), 0);
        due(18, "like SIDES", x.lift(0, 2, 0, 0), 12);
        x.vow(0, 1, 0);
        due(18, "WED", x.lift(0, 1, 28, 28), 18);
        due(18, "alike", x.lift(0, 0, 0, 0), -1);
        due(18, "none such", x.lift(0, 4, 0, 0), -1);
        due(18, "no such FIELD", x.lift(0, 1, 5, 0), -1);
        due(18, "no such FIELD", x.lift(0, 1, 0, -1), -1);
        x.set(3, 9, 21);
        told(x, 0, "lift snow+far*100-100+found*0 when snow=21;lift temper+hope+other+wish+apart*10;");
        due(18, "snow is that of the FIELD", x.lift(0, 1, 8, 9), 21);
        due(18, "99 at most", x.lift(0, 1, 0, 9), 99);
        due(18, "what is not told is 0", x.lift(2, 3, 9, 8), 70);
    }

    private static void weather() {
        SnowRises x = new SnowRises();
        due(19, "none", x.weather(3), 0);
        told(x, 2, "for 2 snow 5;for 1 snow 0;for 3 snow 7;");
        int[] want = {5, 5, 0, 7, 7, 7, 5};
        for (int d = 0; d < want.length; d++) {
            due(19, "weather(" + d + ")", x.weather(d), want[d]);
        }
        due(19, "weather(9999)", x.weather(9999), 7);
        due(19, "weather(10000)", x.weather(10000), -1);
        due(19, "weather(-1)", x.weather(-1), -1);
        x.set(3, 0, 96);
        x.days(1);
        due(19, "99 at most", x.at(0, 0), 99);
        due(19, "SNOW", x.at(1, 0), 15);
    }

    private static void book() {
        SnowRises x = new SnowRises();
        due(20, "none", x.book(0, 0), -1);
        x.days(3);
        x.sweep(12);
        int[] want = {3, 6, 12, 10};
        for (int what = 0; what < 4; what++) {
            due(20, "book(0, " + what + ")", x.book(0, what), want[what]);
        }
        due(20, "book(0, 4)", x.book(0, 4), -1);
        due(20, "book(0, -1)", x.book(0, -1), -1);
        due(20, "book(1, 0)", x.book(1, 0), -1);
        due(20, "book(-1, 0)", x.book(-1, 0), -1);
        for (int i = 1; i < 160; i++) {
            x.sweep(i % 2);
        }
        due(20, "150 lines", x.look(8), 150);
        due(20, "the last", x.book(149, 2), 1);
        due(20, "no more", x.book(150, 0), -1);
        for (int i = 0; i < 6; i++) {
            x.undo();
        }
        due(20, "150 lines behind undo of what was not written", x.look(8), 150);
    }

    private static void lies() {
        SnowRises x = withFour();
        told(x, 0, "melt 2;");
        told(x, 2, "for 1 snow 3;for 1 snow 0;");
        told(x, 1, "on 1 0 and 1 at 0;");
        x.set(1, 0, 5);
        x.set(2, 0, 1000);
        due(21, "lies(28, 0)", x.lies(28, 0), 10);
        due(21, "lies(28, 1)", x.lies(28, 1), 11);
        due(21, "lies(28, 2): 18 less 7 go up", x.lies(28, 2), 0);
        due(21, "lies(28, 60)", x.lies(28, 60), 0);
        due(21, "lies(28, 61)", x.lies(28, 61), -1);
        due(21, "lies(28, -1)", x.lies(28, -1), -1);
        due(21, "lies(5, 1)", x.lies(5, 1), -1);
        due(21, "nothing stays", x.look(2) + x.look(7) + x.look(8) + x.look(9) + x.look(15), 0);
        due(21, "nobody is WED", x.of(0, 4), -1);
        due(21, "SNOW", x.at(28, 0), 10);
    }

    private static void meets() {
        SnowRises x = withFour();
        told(x, 0, "melt 3;");
        told(x, 3, "bare 0 on 3 worth 5;bare 1 on 2 worth 7;bare 2 on 4 worth 11;bare 0 on 2 worth 50;bare 3 on 0 worth 60;");
        // 10, 7, 4, 1, 0 at the ends of DAYS -1 .. 3.
        due(22, "the worth", x.meets(0), 16);
        due(22, "the first by DAY", x.meets(1), 4);
        x.days(1);
        due(22, "by number in a DAY", x.meets(1), 1);
        due(22, "the worth", x.meets(0), 16);
        x.days(2);
        due(22, "none is unmet", x.meets(1), -1);
        due(22, "the worth of this DAY on", x.meets(0), 16);
        x.days(1);
        due(22, "the worth of this DAY on", x.meets(0), 11);
        x.days(1);
        due(22, "none is left", x.meets(0), 0);
        due(22, "none is left", x.meets(1), -1);
        due(22, "meets(3)", x.meets(3), -1);
        due(22, "meets(-1)", x.meets(-1), -1);
        SnowRises y = withFour();
        told(y, 1, "on 5 0 and 1 at 0;on 4 1 and 2 at 0;on 6 3 and 2 at 0;on 5 0 and 3 at 0;");
        // DAY 4 line 1; DAY 5 line 0 is VOID by 1.
        due(22, "FIRST VOID", y.meets(2), 0);
        y.days(6);
        due(22, "DAY 6: 2 and 3 are WED", y.meets(2), 2);
        y.days(1);
        due(22, "none", y.meets(2), -1);
        due(22, "lines of DAY 5", y.book(1, 1) * 10 + y.book(1, 2), 30);
    }

    private static void stable() {
        SnowRises x = new SnowRises();
        for (int i = 0; i < 6; i++) {
            x.person(i % 2, new int[] {1, 1, 2, 2, 3, 3}[i], new int[] {5, 2, 5, 9, 5, 0}[i], 0);
        }
        // By HOPE of the other alone: all of SIDE 0 want 3, then 1; 5 is wanted by none; 3 wants the least of like ones.
        told(x, 0, "match wish;");
        due(23, "stable(0)", x.stable(0), 3);
        due(23, "stable(2)", x.stable(2), 1);
        due(23, "stable(4): 5 is 0 to him", x.stable(4), -1);
        due(23, "stable(5)", x.stable(5), -1);
        due(23, "stable(3)", x.stable(3), 0);
        due(23, "stable(1)", x.stable(1), 2);
        // Those of SIDE 1 want the greatest TEMPER: the later ones put off the earlier ones.
        told(x, 0, "match other when hope>5 or hope=0 or hope=2;match wish;");
        due(23, "stable(4)", x.stable(4), 3);
        due(23, "stable(2)", x.stable(2), 1);
        due(23, "stable(0)", x.stable(0), -1);
        x.vow(4, 3, 0);
        due(23, "one who is WED", x.stable(4), -1);
        due(23, "the rest", x.stable(2), 1);
        told(x, 0, "match 0 when hope=2;match wish;");
        due(23, "0 to the one asked", x.stable(1), -1);
        due(23, "none such", x.stable(6), -1);
        due(23, "none such", x.stable(-1), -1);
    }

    private static void best() {
        SnowRises x = withFour();
        // FOUND: 0-1 9, 0-3 5, 2-1 6, 2-3 2; both ways sum 11: the first is 0-1.
        due(24, "the sum", x.best(0), 11);
        due(24, "best(10)", x.best(10), 1);
        due(24, "best(11)", x.best(11), 0);
        due(24, "best(12)", x.best(12), 3);
        due(24, "best(13)", x.best(13), 2);
        due(24, "best(14)", x.best(14), -1);
        due(24, "best(9)", x.best(9), -1);
        due(24, "best(-1)", x.best(-1), -1);
        due(24, "best(1)", x.best(1), -1);
        told(x, 0, "match 0;");
        due(24, "FOUND 0: the sum", x.best(0), 0);
        due(24, "FOUND 0: nobody is last", x.best(12), 3);
        told(x, 0, "match 9 when apart=3 or apart=4;match 5;");
        due(24, "the sum", x.best(0), 18);
        due(24, "best(10)", x.best(10), 3);
        x.vow(0, 1, 0);
        due(24, "without those who are WED", x.best(0), 5);
        due(24, "WED", x.best(10), -1);
        SnowRises y = new SnowRises();
        y.person(0, 5, 0, 0);
        y.person(0, 5, 0, 0);
        y.person(1, 5, 0, 0);
        due(24, "more of SIDE 0: the first has", y.best(10), 2);
        due(24, "more of SIDE 0: nobody", y.best(11), -1);
    }

    private static void bares() {
        SnowRises x = withFour();
        due(25, "bares(28, 0)", x.bares(28, 0), 0);
        due(25, "bares(28, 1)", x.bares(28, 1), 1);
        due(25, "bares(28, 2)", x.bares(28, 2), 0);
        x.set(3, 28, 18);
        due(25, "18 by FOUND 9 there alone", x.bares(28, 2), 28);
        x.set(3, 28, 19);
        due(25, "19 by none", x.bares(28, 2), -1);
        x.set(3, 28, 12);
        x.set(4, 0, 9);
        // 0: 9 and 1: 5 are 5; 0 and 3: 9.
        due(25, "the other couple", x.bares(28, 1), 3);
        due(25, "row by row", x.bares(28, 2), 1);
        x.set(3, 28, 0);
        due(25, "bare already", x.bares(28, 2), 0);
        x.vow(0, 3, 0);
        due(25, "2 and 1 are 6", x.bares(28, 0), 2);
        told(x, 0, "match 5;lift 99;");
        due(25, "RIGHT ones alone", x.bares(28, 0), -1);
        due(25, "bares(28, 3)", x.bares(28, 3), -1);
        due(25, "bares(28, -1)", x.bares(28, -1), -1);
        due(25, "bares(5, 0)", x.bares(5, 0), -1);
    }

    private static void stirs() {
        SnowRises x = withFour();
        x.sweep(0);
        due(26, "no such PERSON", x.stir(4, 0, true), -1);
        due(26, "no such PERSON", x.stir(-2, 0, true), -1);
        due(26, "v -1", x.stir(0, -1, true), -1);
        due(26, "v 10", x.stir(0, 10, true), -1);
        due(27, "without STIRS", x.who(0), 10);
        due(26, "stir", x.stir(0, 5, true), 1);
        due(27, "5 at least", x.who(0), 10);
        due(26, "stir", x.stir(0, 6, true), 2);
        due(27, "6 at least", x.who(0), 2);
        due(27, "of another one", x.who(2), 10);
        due(27, "of the other SIDE", x.who(3), 5);
        due(26, "stir", x.stir(0, 9, false), 3);
        due(27, "9", x.who(0), 2);
        due(26, "stir", x.stir(0, 8, false), 4);
        due(27, "8: nobody", x.who(0), 0);
        due(27, "none such", x.who(4), -1);
        due(27, "none such", x.who(-1), -1);
        for (int i = 5; i <= 12; i++) {
            due(26, "stir", x.stir(1, 0, true), i);
        }
        due(26, "a thirteenth", x.stir(1, 0, true), -1);
        due(26, "look(14)", x.look(14), 12);
        due(26, "none are then", x.stir(-1, 3, true), 0);
        due(26, "look(14)", x.look(14), 0);
        due(26, "undone it can be", x.look(15), 1);
        x.stir(0, 5, false);
        due(27, "5", x.who(0), 8);
        x.vow(0, 3, 0);
        due(27, "WED, too", x.who(0), 8);
    }

    private static void ask() {
        SnowRises x = new SnowRises();
        int[] tempers = {5, 5, 9, 0};
        for (int t : tempers) {
            x.person(0, t, 0, 0);
        }
        for (int t : new int[] {4, 6, 1}) {
            x.person(1, t, 0, 0);
        }
        // FOUND with 4, 6, 1: by 5: 8 8 5; by 9: 4 6 1; by 0: 5 3 8.
        due(28, "ask(0): 1 has two alike", x.ask(0), 2);
        due(28, "ask(2): the least of several", x.ask(2), 3);
        due(28, "ask(4)", x.ask(4), 5);
        x.stir(0, 8, false);
        due(28, "of two", x.ask(0), 2);
        x.stir(3, 5, false);
        due(28, "fewer than two", x.ask(3), -1);
        due(28, "none such", x.ask(7), -1);
        due(28, "none such", x.ask(-1), -1);
        SnowRises y = new SnowRises();
        y.person(0, 5, 0, 0);
        y.person(1, 5, 0, 0);
        y.person(1, 4, 0, 0);
        due(28, "none to ask", y.ask(0), -1);
        due(28, "fewer than two", y.ask(1), -1);
    }

    private static void fans() {
        SnowRises x = new SnowRises();
        due(29, "fans(50, 500)", x.fans(50, 500), 504950);
        due(29, "fans(0, 1)", x.fans(0, 1), 10);
        due(29, "fans(99, 0)", x.fans(99, 0), 0);
        due(29, "fans(0, 1000)", x.fans(0, 1000), 1000000);
        due(29, "fans(99, 999)", x.fans(99, 999), 999989);
        due(29, "fans(-1, 0)", x.fans(-1, 0), -1);
        due(29, "fans(100, 0)", x.fans(100, 0), -1);
        due(29, "fans(0, -1)", x.fans(0, -1), -1);
        due(29, "fans(0, 1001)", x.fans(0, 1001), -1);
    }

    private static void ways() {
        SnowRises x = new SnowRises();
        due(30, "safe(0, 28)", x.safe(0, 28), 7);
        due(30, "safe(9, 9)", x.safe(9, 9), 0);
        due(30, "no such FIELD", x.safe(0, 5), -1);
        due(30, "no such FIELD", x.safe(-1, 0), -1);
        due(31, "cut(0, 28)", x.cut(0, 28), 2);
        due(31, "cut(8, 20)", x.cut(8, 20), 3);
        due(31, "cut(9, 19)", x.cut(9, 19), 4);
        due(31, "cut(9, 18)", x.cut(9, 18), 4);
        due(31, "side by side", x.cut(9, 10), -1);
        due(31, "side by side", x.cut(9, 17), -1);
        due(31, "alike", x.cut(9, 9), -1);
        due(31, "no such FIELD", x.cut(9, 5), -1);
        due(31, "no such FIELD", x.cut(-1, 9), -1);
        due(31, "not side by side: the row's end", x.cut(4, 8), 2);
        // A wall but for one FIELD.
        x.set(3, 2, 60);
        x.set(3, 10, 59);
        x.set(3, 18, 60);
        x.set(3, 26, 99);
        due(30, "around", x.safe(0, 4), 6);
        due(31, "by one FIELD", x.cut(0, 28), 1);
        x.set(3, 10, 60);
        due(30, "no way", x.safe(0, 4), -1);
        due(31, "none is needed", x.cut(0, 28), 0);
        due(30, "an end is STEEP", x.safe(0, 10), -1);
        due(30, "an end is STEEP", x.safe(10, 10), -1);
        due(31, "an end is STEEP", x.cut(0, 10), -1);
        due(31, "an end is STEEP", x.cut(10, 0), -1);
        x.set(1, 0, 61);
        due(30, "below STEEP", x.safe(0, 4), 4);
    }

    private static void rounds() {
        SnowRises x = new SnowRises();
        for (int i = 0; i < 12; i++) {
            x.person(i % 2, 5, 0, 0);
        }
        due(32, "none", x.rounds(0), 0);
        due(32, "none", x.rounds(10), -1);
        told(x, 1, "on 5 0 and 1 at 0;on 5 2 and 1 at 0;on 1 2 and 3 at 3;on 2 4 and 5 at 2;on 9 7 and 6 at 28;on 9 9 and 8 at 12;");
        // Fields 0, 3, 2, 28, 12 (x 4, y 1): 0-2, 3-2, 3-12, 28-12 are near.
        due(32, "days", x.rounds(0), 2);
        int[] want = {0, -1, 0, 1, 0, 1};
        for (int i = 0; i < want.length; i++) {
            due(32, "rounds(" + (10 + i) + ")", x.rounds(10 + i), want[i]);
        }
        due(32, "rounds(16)", x.rounds(16), -1);
        due(32, "rounds(1)", x.rounds(1), -1);
        due(32, "rounds(9)", x.rounds(9), -1);
        due(32, "rounds(-1)", x.rounds(-1), -1);
        x.vow(0, 3, 0);
        // 0 and 3 are WED: 2 and 1 count now, 2 and 3 don't.
        int[] then = {-1, 0, -1, 1, 0, 1};
        for (int i = 0; i < then.length; i++) {
            due(32, "rounds(" + (10 + i) + ") behind a VOW", x.rounds(10 + i), then[i]);
        }
        told(x, 1, "on 5 4 and 5 at 9;on 5 6 and 7 at 9;on 1 8 and 9 at 10;on 2 10 and 11 at 17;");
        due(32, "as many as lines", x.rounds(0), 4);
        due(32, "the last", x.rounds(13), 3);
        told(x, 1, "on 0 4 and 5 at 0;on 0 6 and 7 at 3;on 0 8 and 9 at 24;");
        due(32, "far enough", x.rounds(0), 1);
        due(32, "one day for all", x.rounds(12), 0);
        due(32, "none is left that is WED", x.look(15), 0);
    }

    private static void comes() {
        SnowRises x = withFour();
        due(33, "now", x.comes(0, 1), 0);
        // 5 and 9 are 5; 6 and 8 are 7.
        due(33, "comes(0, 3)", x.comes(0, 3), 1);
        due(33, "comes(3, 0)", x.comes(3, 0), 1);
        // 2 and 9, 3 and 8, 4 and 7.
        due(33, "comes(2, 3)", x.comes(2, 3), 2);
        due(33, "like SIDES", x.comes(0, 2), -1);
        due(33, "alike", x.comes(0, 0), -1);
        due(33, "none such", x.comes(0, 4), -1);
        due(33, "none such", x.comes(-1, 0), -1);
        due(33, "TEMPERS stay", x.of(2, 1) * 10 + x.of(3, 1), 29);
        told(x, 0, "match 9 when apart=0;match 5;");
        due(33, "one apart stays so", x.comes(2, 3), -1);
        x.set(4, 2, 5);
        x.set(4, 3, 6);
        told(x, 0, "match 9 when temper=6 and hope=0 or temper=5 and hope=7;match 5;");
        due(33, "one apart: TEMPERS don't change places", x.comes(2, 3), -1);
        x.set(4, 2, 2);
        x.set(4, 3, 9);
        told(x, 0, "match 5 when apart>1 or temper<5;match 6;");
        due(33, "5 and 6 at last, of which the lesser", x.comes(2, 3), 3);
        x.vow(2, 3, 0);
        due(33, "WED, too", x.comes(2, 3), 3);
    }

    private static void asks() {
        SnowRises x = withFour();
        due(34, "0 and 0", x.asks(), 0);
        told(x, 3, "bare 0 on 0 worth 30;bare 1 on 999 worth 9;bare 0 on 7 worth 2;");
        due(34, "none is bare", x.asks(), 0);
        x.sweep(0);
        due(34, "0 and 32", x.asks(), 16);
        x.days(1);
        x.sweep(1);
        due(34, "0 and 41, downwards", x.asks(), 20);
        x.set(3, 28, 30);
        x.vow(0, 1, 0);
        // 17 FIELDS with 10 and 11 of the 30.
        due(34, "NEXT", x.look(7), 181);
        due(34, "18 and 41, downwards", x.asks(), 29);
        told(x, 3, "bare 0 on 0 worth 18;");
        due(34, "18 and 18", x.asks(), 18);
        told(x, 3, "bare 0 on 0 worth 17;");
        due(34, "18 and 17", x.asks(), -1);
    }

    private static void kinAndHopes() {
        SnowRises x = new SnowRises();
        due(36, "nobody", x.hopes(0), 0);
        due(36, "nobody", x.hopes(1), 0);
        int[] hope = {3, 5, 3, 0, 6, 2};
        for (int h : hope) {
            x.person(0, 0, h, 0);
        }
        due(36, "all", x.hopes(0), 19);
        due(36, "the least set: without 3", x.hopes(1), 0b110111);
        x.kin(0, 1, true);
        x.kin(1, 2, true);
        x.kin(4, 5, true);
        due(35, "tribe(0)", x.tribe(0), 7);
        due(35, "tribe(2)", x.tribe(2), 7);
        due(35, "tribe(3)", x.tribe(3), 8);
        due(35, "tribe(5)", x.tribe(5), 48);
        due(35, "none such", x.tribe(6), -1);
        due(35, "none such", x.tribe(-1), -1);
        due(36, "0, 2 and 4", x.hopes(0), 12);
        due(36, "0, 2 and 4", x.hopes(1), 0b010101);
        x.set(5, 1, 6);
        due(36, "as much by the lesser set", x.hopes(1), 0b010010);
        due(36, "the sum", x.hopes(0), 12);
        due(36, "hopes(2)", x.hopes(2), -1);
        due(36, "hopes(-1)", x.hopes(-1), -1);
    }

    private static void undo() {
        SnowRises x = withFour();
        x.set(2, 0, 1000);
        x.set(1, 0, 10);
        due(37, "nothing", x.undo(), false);
        x.vow(0, 1, 28);
        x.part(0, 1);
        x.sweep(27);
        x.set(1, 0, 1);
        due(37, "told: forgotten", x.undo(), false);
        x.set(3, 0, 50);
        x.sweep(28);
        x.days(2);
        int next = x.look(7);
        int state = x.look(9);
        x.vow(2, 1, 0);
        x.part(2, 1);
        due(37, "look(15)", x.look(15), 5);
        due(37, "PARTING", x.undo(), true);
        due(37, "of(2, 4)", x.of(2, 4), 1);
        due(37, "VOW", x.undo(), true);
        due(37, "of(2, 4)", x.of(2, 4), -1);
        due(37, "NEXT", x.look(7), next);
        due(37, "STATE", x.look(9), state);
        due(37, "DAY", x.undo(), true);
        due(37, "look(2)", x.look(2), 1);
        due(37, "DAY", x.undo(), true);
        due(37, "STATE as at first", x.look(9), 0);
        due(37, "THE BOOK", x.look(8), 4);
        due(37, "at(0, 0)", x.at(0, 0), 50);
        due(37, "SWEEPING", x.undo(), true);
        due(37, "look(8)", x.look(8), 3);
        due(37, "nothing", x.undo(), false);
        x.days(9);
        due(37, "6 are kept", x.look(15), 6);
        for (int i = 0; i < 6; i++) {
            due(37, "undo", x.undo(), true);
        }
        due(37, "the seventh", x.undo(), false);
        due(37, "look(2)", x.look(2), 3);
    }

    private static void forgets() {
        SnowRises x = withFour();
        x.days(1);
        told(x, 0, "melt 1;");
        told(x, 3, "bare 0 on 0 worth 1;");
        x.stir(0, 1, true);
        x.stir(-1, 1, true);
        x.image(true);
        told(x, 1, "on");
        told(x, 2, "for");
        x.text(9);
        x.kin(0, 0, true);
        x.valley(0, 0);
        x.person(9, 9, 9, 9);
        x.days(0);
        x.lies(0, 9);
        due(37, "not forgotten", x.look(15), 1);
        due(37, "undo", x.undo(), true);
        due(37, "THE LAW stays", x.look(10), 1);
        due(37, "WANTS stay", x.look(13), 1);
        x.sweep(0);
        told(x, 1, "");
        due(37, "VOWS forget", x.look(15), 0);
        x.sweep(0);
        told(x, 2, "");
        due(37, "WEATHER forgets", x.look(15), 0);
        x.sweep(0);
        x.image(false);
        due(37, "THE IMAGE gone back to forgets", x.look(15), 0);
    }

    private static void image() {
        SnowRises x = withFour();
        due(38, "none", x.image(false), false);
        x.state(77);
        x.set(0, 0, 0);
        told(x, 0, "melt 1;match 8;");
        told(x, 1, "on 3 0 and 1 at 0;");
        told(x, 2, "for 1 snow 4;");
        told(x, 3, "bare 0 on 3 worth 9;");
        x.stir(0, 3, true);
        x.kin(0, 2, true);
        x.sweep(8);
        x.vow(2, 3, 0);
        x.feed(0x6d656c74, 0x20373b20, 0, 0, 0);
        x.end(7);
        due(38, "taken", x.image(true), true);
        due(38, "taking does not forget", x.look(15), 2);
        int[] want = new int[17];
        for (int what = 0; what < 17; what++) {
            want[what] = x.look(what);
        }
        want[15] = 0;
        int snow = x.at(9, 0);
        for (int time = 0; time < 2; time++) {
            x.text(0);
            told(x, 3, "bare");
            x.days(5);
            x.part(2, 3);
            x.state(5);
            x.set(4, 0, 0);
            x.valley(3, 7);
            x.person(1, 9, 9, 0);
            x.feed(1, 2, 3, 4, 5);
            due(38, "gone back to", x.image(false), true);
            for (int what = 0; what < 17; what++) {
                due(38, "look(" + what + ")", x.look(what), want[what]);
            }
            due(38, "SNOW", x.at(9, 0), snow);
            due(38, "melt", x.at(9, 1), 1);
            due(38, "match", x.match(0, 1, true), 8);
            due(38, "WED", x.of(2, 4), 3);
            due(38, "KIN", x.of(2, 5), 1);
            due(38, "TEMPER", x.of(0, 1), 5);
            due(38, "VOWS", x.rounds(10), 0);
            due(38, "WEATHER", x.weather(0), 4);
            due(38, "WANTS", x.meets(0), 9);
            due(38, "STIRS", x.who(0), 10);
            due(38, "THE BOOK", x.book(0, 1) * 10 + x.book(1, 1), 60);
            due(38, "the TAPE stays", x.end(20), true);
            due(38, "fault() stays", x.fault(1), 4);
            due(38, "nothing to undo", x.undo(), false);
            x.end(0);
        }
    }

    private static void look() {
        SnowRises x = withFour();
        due(39, "look(17)", x.look(17), -1000000);
        due(39, "look(-1)", x.look(-1), -1000000);
        x.valley(7, 3);
        x.person(0, 0, 0, 0);
        x.person(1, 0, 0, 0);
        x.set(0, 0, 2);
        x.set(1, 0, 33);
        x.set(2, 0, 444);
        x.state(-12345);
        told(x, 0, "melt 0;match 9;lift 2;lift 1;");
        told(x, 1, "on 0 0 and 1 at 0;on 0 0 and 1 at 0;on 0 0 and 1 at 0;");
        told(x, 2, "for 1 snow 0;for 2 snow 0;");
        told(x, 3, "bare 0 on 0 worth 1;");
        x.stir(0, 0, true);
        x.stir(0, 0, true);
        x.set(3, 1, 0);
        x.days(1);
        x.sweep(0);
        int[] want = {7, 3, 1, 2, 33, 444, 2, 40, 4, -12345, 4, 3, 2, 1, 2, 2, 2};
        for (int what = 0; what < want.length; what++) {
            due(39, "look(" + what + ")", x.look(what), want[what]);
        }
    }

    public static void main(String[] args) {
        newObject();
        state();
        valley();
        person();
        set();
        kin();
        vow();
        vowBounds();
        part();
        sweep();
        days();
        lastDay();
        avalanches();
        tape();
        texts();
        faults();
        lawTells();
        of();
        at();
        lift();
        weather();
        book();
        lies();
        meets();
        stable();
        best();
        bares();
        stirs();
        ask();
        fans();
        ways();
        rounds();
        comes();
        asks();
        kinAndHopes();
        undo();
        forgets();
        image();
        look();
        System.out.println(checks + " checks, " + wrong + " not as due");
        if (wrong != 0) {
            System.exit(1);
        }
    }
}
