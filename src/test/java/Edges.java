import java.nio.charset.StandardCharsets;
import java.util.function.Supplier;
import java.util.function.ToLongFunction;

/** What the tests of edges share: answers that are due, texts on the TAPE, and whether a refused call changed anything. */
final class Edges {
    static final int LEAST = Integer.MIN_VALUE;
    static final int MOST = Integer.MAX_VALUE;

    private static int wrong = 0;
    private static int checks = 0;
    private static int sentences = 0;
    private static String words = "";

    private Edges() {
    }

    /** One sentence of the document (or a part of it), and all that shows that it holds. */
    static void sentence(int promise, String quoted, Runnable test) {
        words = "promise " + promise + " '" + quoted + "'";
        sentences++;
        int before = checks;
        try {
            test.run();
        } catch (RuntimeException | StackOverflowError e) {
            fail("threw " + e);
        }
        if (checks == before) {
            fail("nothing was asked");
        }
    }

    private static void fail(String what) {
        wrong++;
        System.out.println(words + ": " + what);
    }

    static void due(String call, long got, long want) {
        checks++;
        if (got != want) {
            fail(call + " answered " + got + ", due is " + want);
        }
    }

    static void due(String call, boolean got, boolean want) {
        due(call, count(got), count(want));
    }

    static long count(boolean b) {
        return b ? 1 : 0;
    }

    static void end() {
        System.out.println(sentences + " sentences, " + checks + " checks, " + wrong + " not as due");
        if (wrong != 0) {
            System.exit(1);
        }
    }

    /** The TAPE has the text's bytes behind what it had, which must be whole twenties. */
    static void feedAll(SnowRises x, String text) {
        byte[] b = text.getBytes(StandardCharsets.ISO_8859_1);
        int had = 0;
        for (int i = 0; i < b.length; i += 20) {
            int[] five = new int[5];
            for (int j = 0; j < 20; j++) {
                five[j / 4] = five[j / 4] << 8 | (i + j < b.length ? b[i + j] & 255 : 32);
            }
            had = x.feed(five[0], five[1], five[2], five[3], five[4]) - 20 - i;
        }
        x.end(had + b.length);
    }

    static int told(SnowRises x, int k, String text) {
        feedAll(x, text);
        return x.text(k);
    }

    static void taken(SnowRises x, int k, String text, int lines) {
        due("text " + k + " '" + text + "'", told(x, k, text), lines);
        due("fault(0) of '" + text + "'", x.fault(0), 0);
        due("fault(1) of '" + text + "'", x.fault(1), -1);
    }

    static void faulty(SnowRises x, int k, String text, int fault, int place) {
        due("text " + k + " '" + text + "'", told(x, k, text), -1);
        due("fault(0) of '" + text + "'", x.fault(0), fault);
        due("fault(1) of '" + text + "'", x.fault(1), place);
    }

    /** PEOPLE of SIDES 0, 1, 0, 1 and so on, of such TEMPERS, HOPE 0, at FIELD 0. */
    static SnowRises withTempers(int... tempers) {
        SnowRises x = new SnowRises();
        for (int i = 0; i < tempers.length; i++) {
            x.person(i % 2, tempers[i], 0, 0);
        }
        return x;
    }

    static SnowRises withLaw(String law, int... tempers) {
        SnowRises x = withTempers(tempers);
        due("text 0 '" + law + "'", told(x, 0, law) > 0, true);
        return x;
    }

    /** Everything in it is other than at first: 3 by 4 FIELDS, six PEOPLE, all texts, four to undo, an older image, a FAULT. */
    static SnowRises rich() {
        SnowRises x = new SnowRises();
        x.valley(3, 4);
        x.state(12345);
        int[][] folk = {{0, 5, 3, 0}, {1, 5, 4, 9}, {0, 2, 0, 26}, {1, 9, 7, 2}, {0, 4, 5, 8}, {1, 1, 2, 17}};
        for (int[] p : folk) {
            x.person(p[0], p[1], p[2], p[3]);
        }
        x.kin(0, 2, true);
        x.kin(3, 5, true);
        told(x, 0, "melt snow/9 when day<3;match 9-apart-kin;lift found+day-far;");
        told(x, 1, "on 9 0 and 1 at 9;on 5 4 and 5 at 0;on 5 4 and 1 at 2;");
        told(x, 2, "for 2 snow 3;for 1 snow 0;");
        told(x, 3, "bare 9 on 4 worth 7;bare 0 on 12 worth 5;");
        x.stir(0, 5, true);
        x.stir(1, 2, true);
        x.vow(0, 1, 9);
        x.part(0, 1);
        x.set(0, 0, 2);
        x.set(1, 0, 12);
        x.set(2, 0, 300);
        x.image(true);
        x.set(3, 9, 50);
        x.vow(2, 3, 9);
        x.days(2);
        x.sweep(1);
        told(x, 0, "melt");
        feedAll(x, "melt 3;");
        return x;
    }

    /** A call that is refused answers so, and all that later calls show is as without it. */
    static void refused(Supplier<SnowRises> made, String call, ToLongFunction<SnowRises> asked, long want) {
        SnowRises x = made.get();
        due(call, asked.applyAsLong(x), want);
        changedNothing(made, call, x);
    }

    /** All that later calls show of one on which a call was made is as of one that was made alike. */
    static void changedNothing(Supplier<SnowRises> made, String call, SnowRises x) {
        String with = all(x);
        String without = all(made.get());
        int i = 0;
        while (i < with.length() && i < without.length() && with.charAt(i) == without.charAt(i)) {
            i++;
        }
        due(call + " changed, behind " + with.substring(Math.max(0, i - 40), i), with.equals(without), true);
    }

    static void refused(String call, ToLongFunction<SnowRises> asked, long want) {
        refused(Edges::rich, call, asked, want);
    }

    /** All that calls show: as it is, by what is on the TAPE, as it was ahead of each one undone, as the image has it. */
    static String all(SnowRises x) {
        StringBuilder s = new StringBuilder();
        showValley(x, s);
        showPeople(x, s);
        showThoughts(x, s);
        s.append(" fault ").append(x.fault(0)).append(' ').append(x.fault(1));
        int fed = x.feed(0x20202020, 0x20202020, 0x20202020, 0x20202020, 0x20202020);
        s.append(" tape ").append(fed);
        x.end(fed - 20);
        s.append(" read ").append(x.text(0)).append(' ').append(x.at(9, 1));
        for (int i = 0; i < 7; i++) {
            s.append(" undone ").append(x.undo());
            for (int what : new int[] {2, 7, 8, 9, 15}) {
                s.append(' ').append(x.look(what));
            }
            s.append(' ').append(x.of(2, 4)).append(' ').append(x.at(9, 0)).append(' ').append(x.at(1, 0));
        }
        s.append(" image ").append(x.image(false));
        showLooks(x, s);
        s.append(' ').append(x.at(9, 0)).append(' ').append(x.at(9, 1)).append(' ').append(x.of(2, 4));
        return s.toString();
    }

    private static void showLooks(SnowRises x, StringBuilder s) {
        for (int what = 0; what <= 16; what++) {
            s.append(" look ").append(what).append(": ").append(x.look(what));
        }
    }

    private static void showValley(SnowRises x, StringBuilder s) {
        showLooks(x, s);
        for (int f = 0; f < 8 * x.look(1); f++) {
            if (f % 8 < 3) {
                s.append(" at ").append(f).append(": ").append(x.at(f, 0)).append(' ').append(x.at(f, 1));
            }
        }
        for (int day = 0; day < 4; day++) {
            s.append(" weather ").append(x.weather(day));
        }
        for (int i = 0; i < 9; i++) {
            s.append(" book ").append(i).append(':');
            for (int what = 0; what < 4; what++) {
                s.append(' ').append(x.book(i, what));
            }
        }
    }

    private static void showPeople(SnowRises x, StringBuilder s) {
        for (int p = 0; p < x.look(6); p++) {
            s.append(" of ").append(p).append(':');
            for (int what = 0; what < 6; what++) {
                s.append(' ').append(x.of(p, what));
            }
            s.append(" who ").append(x.who(p)).append(" stable ").append(x.stable(p)).append(" best ").append(x.best(10 + p));
        }
        s.append(" match ").append(x.match(0, 1, false)).append(' ').append(x.match(3, 0, false)).append(' ').append(x.match(2, 5, true));
        s.append(" lift ").append(x.lift(0, 1, 0, 9)).append(' ').append(x.lift(4, 5, 9, 9));
    }

    private static void showThoughts(SnowRises x, StringBuilder s) {
        s.append(" lies ").append(x.lies(9, 1)).append(' ').append(x.lies(0, 7));
        for (int what = 0; what < 3; what++) {
            s.append(" meets ").append(x.meets(what)).append(" bares ").append(x.bares(2, what));
        }
        s.append(" best ").append(x.best(0)).append(" ask ").append(x.ask(0)).append(" fans ").append(x.fans(4, 5));
        s.append(" safe ").append(x.safe(0, 18)).append(" cut ").append(x.cut(0, 18)).append(" rounds ").append(x.rounds(0));
        for (int line = 0; line < 3; line++) {
            s.append(' ').append(x.rounds(10 + line));
        }
        s.append(" comes ").append(x.comes(2, 3)).append(" asks ").append(x.asks()).append(" tribe ").append(x.tribe(0));
        s.append(" hopes ").append(x.hopes(0)).append(' ').append(x.hopes(1));
    }
}
