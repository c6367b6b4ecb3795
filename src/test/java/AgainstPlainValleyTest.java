import java.util.List;

/** Runs by chance, answered by the class and by a plain second telling of the document. */
public final class AgainstPlainValleyTest {
    private static boolean yes(int[] a, int i) {
        return a[i] == 1;
    }

    private static int count(boolean b) {
        return b ? 1 : 0;
    }

    private static int bySnowRises(SnowRises x, RandomRuns.Call c) {
        int[] a = c.args();
        return switch (c.name()) {
            case "state" -> x.state(a[0]);
            case "valley" -> count(x.valley(a[0], a[1]));
            case "person" -> x.person(a[0], a[1], a[2], a[3]);
            case "set" -> count(x.set(a[0], a[1], a[2]));
            case "kin" -> count(x.kin(a[0], a[1], yes(a, 2)));
            case "vow" -> x.vow(a[0], a[1], a[2]);
            case "part" -> count(x.part(a[0], a[1]));
            case "sweep" -> x.sweep(a[0]);
            case "days" -> x.days(a[0]);
            case "feed" -> x.feed(a[0], a[1], a[2], a[3], a[4]);
            case "end" -> count(x.end(a[0]));
            case "text" -> x.text(a[0]);
            case "fault" -> x.fault(a[0]);
            case "of" -> x.of(a[0], a[1]);
            case "match" -> x.match(a[0], a[1], yes(a, 2));
            case "at" -> x.at(a[0], a[1]);
            case "lift" -> x.lift(a[0], a[1], a[2], a[3]);
            case "weather" -> x.weather(a[0]);
            case "book" -> x.book(a[0], a[1]);
            case "lies" -> x.lies(a[0], a[1]);
            case "meets" -> x.meets(a[0]);
            case "stable" -> x.stable(a[0]);
            case "best" -> x.best(a[0]);
            case "bares" -> x.bares(a[0], a[1]);
            case "stir" -> x.stir(a[0], a[1], yes(a, 2));
            case "who" -> x.who(a[0]);
            case "ask" -> x.ask(a[0]);
            case "fans" -> x.fans(a[0], a[1]);
            case "safe" -> x.safe(a[0], a[1]);
            case "cut" -> x.cut(a[0], a[1]);
            case "rounds" -> x.rounds(a[0]);
            case "comes" -> x.comes(a[0], a[1]);
            case "asks" -> x.asks();
            case "tribe" -> x.tribe(a[0]);
            case "hopes" -> x.hopes(a[0]);
            case "undo" -> count(x.undo());
            case "image" -> count(x.image(yes(a, 0)));
            case "look" -> x.look(a[0]);
            default -> throw new IllegalStateException(c.name());
        };
    }

    private static int byPlainValley(PlainValley x, RandomRuns.Call c) {
        int[] a = c.args();
        return switch (c.name()) {
            case "state" -> x.state(a[0]);
            case "valley" -> count(x.valley(a[0], a[1]));
            case "person" -> x.person(a[0], a[1], a[2], a[3]);
            case "set" -> count(x.set(a[0], a[1], a[2]));
            case "kin" -> count(x.kin(a[0], a[1], yes(a, 2)));
            case "vow" -> x.vow(a[0], a[1], a[2]);
            case "part" -> count(x.part(a[0], a[1]));
            case "sweep" -> x.sweep(a[0]);
            case "days" -> x.days(a[0]);
            case "feed" -> x.feed(a);
            case "end" -> count(x.end(a[0]));
            case "text" -> x.text(a[0]);
            case "fault" -> x.fault(a[0]);
            case "of" -> x.of(a[0], a[1]);
            case "match" -> x.match(a[0], a[1], yes(a, 2));
            case "at" -> x.at(a[0], a[1]);
            case "lift" -> x.lift(a[0], a[1], a[2], a[3]);
            case "weather" -> x.weather(a[0]);
            case "book" -> x.book(a[0], a[1]);
            case "lies" -> x.lies(a[0], a[1]);
            case "meets" -> x.meets(a[0]);
            case "stable" -> x.stable(a[0]);
            case "best" -> x.best(a[0]);
            case "bares" -> x.bares(a[0], a[1]);
            case "stir" -> x.stir(a[0], a[1], yes(a, 2));
            case "who" -> x.who(a[0]);
            case "ask" -> x.ask(a[0]);
            case "fans" -> x.fans(a[0], a[1]);
            case "safe" -> x.safe(a[0], a[1]);
            case "cut" -> x.cut(a[0], a[1]);
            case "rounds" -> x.rounds(a[0]);
            case "comes" -> x.comes(a[0], a[1]);
            case "asks" -> x.asks();
            case "tribe" -> x.tribe(a[0]);
            case "hopes" -> x.hopes(a[0]);
            case "undo" -> count(x.undo());
            case "image" -> count(x.image(yes(a, 0)));
            case "look" -> x.look(a[0]);
            default -> throw new IllegalStateException(c.name());
        };
    }

    /** Whether a run is answered alike; if not, it tells where. */
    private static boolean isAlike(long seed, int length) {
        List<RandomRuns.Call> calls = new RandomRuns(seed).make(length);
        SnowRises x = new SnowRises();
        PlainValley plain = new PlainValley();
        for (int i = 0; i < calls.size() && i < 512; i++) {
            int got = bySnowRises(x, calls.get(i));
            int due = byPlainValley(plain, calls.get(i));
            if (got != due) {
                System.out.println("run " + seed + ", call " + i + ": " + calls.get(i) + " answered " + got + ", due is " + due);
                return false;
            }
        }
        return true;
    }

    public static void main(String[] args) {
        int runs = args.length > 0 ? Integer.parseInt(args[0]) : 600;
        long from = args.length > 1 ? Long.parseLong(args[1]) : 1;
        int wrong = 0;
        for (long seed = from; seed < from + runs && wrong < 10; seed++) {
            wrong += isAlike(seed, seed % 10 == 0 ? 512 : 200) ? 0 : 1;
        }
        System.out.println(runs + " runs, " + wrong + " not alike");
        if (wrong != 0) {
            System.exit(1);
        }
    }
}
