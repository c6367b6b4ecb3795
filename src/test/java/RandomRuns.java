import java.util.ArrayList;
import java.util.List;
import java.util.Random;

/** Makes runs of calls by chance (the same ones each time), with arguments that mostly, not always, can be. */
final class RandomRuns {
    /** One call: its name and its arguments, a boolean as 0 or 1. */
    record Call(String name, int... args) {
        @Override
        public String toString() {
            StringBuilder s = new StringBuilder(name).append('(');
            for (int i = 0; i < args.length; i++) {
                s.append(i == 0 ? "" : ", ").append(args[i]);
            }
            return s.append(')').toString();
        }
    }

    private static final String[] THOUGHTS = {
        "of", "match", "at", "lift", "weather", "book", "lies", "meets", "stable", "best", "bares", "who", "ask", "fans",
        "safe", "cut", "rounds", "comes", "asks", "tribe", "hopes", "look", "fault"};
    private static final String[] NAMES =
        {"temper", "hope", "other", "wish", "kin", "apart", "far", "snow", "found", "day"};

    private final Random random;
    private final List<Call> calls = new ArrayList<>();
    private int w = 5;
    private int h = 4;
    // SIDES of those who came, as far as the calls made so far tell.
    private final List<Integer> sides = new ArrayList<>();

    RandomRuns(long seed) {
        random = new Random(seed);
    }

    private int upTo(int most) {
        return random.nextInt(most + 1);
    }

    private boolean oneIn(int n) {
        return random.nextInt(n) == 0;
    }

    /** A value within bounds, at times one beside them, seldom one far off. */
    private int near(int least, int most) {
        if (oneIn(300)) {
            return new int[] {Integer.MIN_VALUE, Integer.MAX_VALUE, -2, 1 << 20, 64, 100}[upTo(5)];
        }
        if (oneIn(60)) {
            return oneIn(2) ? least - 1 : most + 1;
        }
        return most < least ? least : least + upTo(most - least);
    }

    private int field() {
        return oneIn(50) ? near(-1, 64) : 8 * upTo(h - 1) + upTo(w - 1);
    }

    private int someone() {
        return near(0, sides.size() - 1);
    }

    /** Mostly one of the other SIDE. */
    private int someoneFor(int a) {
        int b = someone();
        for (int i = 0; i < 12 && a >= 0 && a < sides.size() && !sides.isEmpty() && !oneIn(20); i++) {
            b = upTo(sides.size() - 1);
            if (!sides.get(b).equals(sides.get(a))) {
                return b;
            }
        }
        return b;
    }

    /** A call about two. */
    private void addTwo(String name, int... more) {
        int a = someone();
        int[] args = new int[2 + more.length];
        args[0] = a;
        args[1] = oneIn(6) ? someone() : someoneFor(a);
        System.arraycopy(more, 0, args, 2, more.length);
        add(name, args);
    }

    private void add(String name, int... args) {
        calls.add(new Call(name, args));
    }

    private void told(int k, String text) {
        if (text.length() > 400) {
            text = text.substring(0, 400);
        }
        StringBuilder s = new StringBuilder(text);
        while (s.length() % 20 != 0) {
            s.append(' ');
        }
        for (int i = 0; i < s.length(); i += 20) {
            int[] five = new int[5];
            for (int j = 0; j < 20; j++) {
                five[j / 4] = five[j / 4] << 8 | s.charAt(i + j) & 255;
            }
            add("feed", five);
        }
        add("end", text.length());
        add("text", k);
        add("fault", 0);
        add("fault", 1);
    }

    private String expression(int size) {
        StringBuilder s = new StringBuilder();
        for (int i = 0; i <= size; i++) {
            if (i > 0) {
                int op = upTo(3);
                s.append("+-*/".charAt(op));
                if (op == 3) {
                    s.append(oneIn(40) ? near(0, 9999) : 1 + upTo(4));
                    continue;
                }
            }
            s.append(oneIn(3) ? "" + (oneIn(10) ? upTo(9999) : upTo(12)) : NAMES[upTo(9)]);
        }
        return s.toString();
    }

    private String condition(int depth) {
        StringBuilder s = new StringBuilder();
        int parts = upTo(2);
        for (int i = 0; i <= parts; i++) {
            s.append(i == 0 ? "" : oneIn(2) ? " and " : " or ");
            int kind = upTo(5);
            if (depth > 0 && kind == 0) {
                s.append("not ").append(oneIn(2) ? "not " : "").append("(").append(condition(depth - 1)).append(")");
            } else if (depth > 0 && kind == 1) {
                s.append("(").append(condition(depth - 1)).append(")");
            } else if (kind == 2) {
                s.append("not ").append(expression(upTo(1))).append("<=>".charAt(upTo(2))).append(expression(0));
            } else {
                s.append(expression(upTo(2))).append("<=>".charAt(upTo(2))).append(expression(upTo(1)));
            }
        }
        return s.toString();
    }

    private String law() {
        StringBuilder s = new StringBuilder();
        int lines = oneIn(25) ? 17 : upTo(7);
        for (int i = 0; i < lines; i++) {
            int word = upTo(2);
            s.append(new String[] {"match ", "lift ", "melt "}[word]);
            if (lines == 17) {
                s.append("1;");
                continue;
            }
            if (oneIn(2)) {
                s.append(new String[] {oneIn(3) ? "4" : "9-apart+hope-wish", oneIn(3) ? "99 when far<3" : "found*2-far", "snow/3+1"}[word]);
                if (s.indexOf("far<3", s.length() - 5) > 0) {
                    s.append(";");
                    continue;
                }
            } else {
                s.append(expression(upTo(3)));
            }
            if (!oneIn(3)) {
                s.append(" when ").append(condition(oneIn(6) ? 9 : 2));
            }
            s.append(";");
        }
        return s.toString();
    }

    private String vows() {
        StringBuilder s = new StringBuilder();
        int lines = oneIn(25) ? 17 : upTo(9);
        int from = upTo(9);
        for (int i = 0; i < lines; i++) {
            int a = someone();
            s.append("on ").append(oneIn(60) ? near(0, 999) : from + upTo(12)).append(' ').append(a).append(" and ");
            s.append(someoneFor(a)).append(" at ").append(field()).append(";");
        }
        return s.toString();
    }

    private String weather() {
        StringBuilder s = new StringBuilder();
        int lines = oneIn(25) ? 13 : upTo(4);
        for (int i = 0; i < lines; i++) {
            s.append("for ").append(oneIn(20) ? near(1, 60) : 1 + upTo(5)).append(" snow ").append(oneIn(9) ? near(0, 30) : upTo(3)).append(";");
        }
        return s.toString();
    }

    private String wants() {
        StringBuilder s = new StringBuilder();
        int lines = oneIn(25) ? 13 : upTo(7);
        int from = upTo(9);
        for (int i = 0; i < lines; i++) {
            s.append("bare ").append(field()).append(" on ").append(oneIn(60) ? near(0, 999) : from + upTo(12));
            s.append(" worth ").append(near(1, 99)).append(";");
        }
        return s.toString();
    }

    private String spoiled(String text) {
        StringBuilder s = new StringBuilder(text);
        for (int n = upTo(2); n >= 0 && s.length() > 0; n--) {
            int i = upTo(s.length() - 1);
            switch (upTo(4)) {
                case 0 -> s.setLength(i);
                case 1 -> s.deleteCharAt(i);
                case 2 -> s.insert(i, " \n;()0123456789+-*/<=>aXnot ".charAt(upTo(27)));
                case 3 -> s.setCharAt(i, (char) upTo(255));
                default -> s.insert(i, "  \n");
            }
        }
        return s.toString();
    }

    private void someText() {
        int k = upTo(3);
        String text = k == 0 ? law() : k == 1 ? vows() : k == 2 ? weather() : wants();
        told(oneIn(40) ? near(0, 3) : k, oneIn(5) ? spoiled(text) : text);
        if (k == 1) {
            add("meets", 2);
            add("rounds", 0);
            for (int i = 0; i < 8; i++) {
                add("rounds", 10 + i);
            }
        }
    }

    private void someone(boolean evenly) {
        int side = evenly ? sides.size() % 2 : near(0, 1);
        int home = field();
        add("person", side, near(0, 9), near(0, 9), home);
        if (sides.size() < 12 && (side == 0 || side == 1) && home >= 0 && home % 8 < w && home / 8 < h) {
            sides.add(side);
        }
    }

    private void act() {
        switch (upTo(20)) {
            case 0, 1, 2, 3 -> addTwo("vow", field());
            case 4, 5 -> addTwo("part");
            case 6 -> add("sweep", field());
            case 7, 8, 9 -> add("days", oneIn(15) ? near(1, 60) : 1 + upTo(3));
            case 10, 11 -> add("undo");
            case 12 -> add("image", upTo(1));
            case 13 -> {
                for (int i = upTo(6); i >= 0; i--) {
                    add("set", 3, field(), near(0, 99));
                }
            }
            case 14 -> add("set", near(0, 5), oneIn(2) ? someone() : field(), oneIn(3) ? near(0, 1000) : near(0, 9));
            case 15 -> add("kin", someone(), someone(), oneIn(3) ? 0 : 1);
            case 16 -> add("stir", oneIn(12) ? -1 : someone(), near(0, 9), upTo(1));
            case 17 -> someText();
            case 18 -> add("set", 1, 0, oneIn(2) ? 1 + upTo(14) : near(1, 99));
            case 19 -> {
                if (oneIn(3)) {
                    add("state", random.nextInt());
                } else {
                    someone(oneIn(2));
                }
            }
            default -> {
                add("end", near(0, 5));
                add("set", 2, 0, near(0, 1000));
                if (oneIn(20)) {
                    toldAnew();
                }
            }
        }
    }

    private void toldAnew() {
        w = 3 + upTo(5);
        h = 3 + upTo(4);
        add("valley", w, h);
        sides.clear();
        for (int i = 0; i < 5; i++) {
            someone(true);
        }
    }

    private void think(String name) {
        switch (name) {
            case "of" -> add(name, someone(), near(0, 5));
            case "match" -> addTwo(name, upTo(1));
            case "at" -> add(name, field(), near(0, 1));
            case "lift" -> addTwo(name, field(), field());
            case "weather" -> add(name, oneIn(2) ? near(0, 9999) : upTo(40));
            case "book" -> add(name, near(0, 20), near(0, 3));
            case "lies" -> add(name, field(), oneIn(9) ? near(0, 60) : upTo(9));
            case "meets" -> add(name, near(0, 2));
            case "best" -> add(name, oneIn(4) ? near(0, 22) : 10 + upTo(Math.max(0, sides.size() - 1)));
            case "bares" -> add(name, field(), near(0, 2));
            case "fans" -> add(name, near(0, 99), near(0, 1000));
            case "safe", "cut" -> add(name, field(), field());
            case "rounds" -> add(name, oneIn(4) ? near(0, 26) : 10 + upTo(8));
            case "comes" -> addTwo(name);
            case "asks" -> add(name);
            case "hopes", "fault" -> add(name, near(0, 1));
            case "look" -> add(name, near(0, 16));
            default -> add(name, someone());
        }
    }

    /** A run of so many calls at least, on a valley with people and texts. */
    List<Call> make(int length) {
        add("state", random.nextInt());
        if (!oneIn(4)) {
            w = near(3, 8);
            h = near(3, 7);
            add("valley", w, h);
            if (w < 3 || w > 8 || h < 3 || h > 7) {
                w = 5;
                h = 4;
            }
        }
        int people = oneIn(5) ? upTo(12) : 4 + upTo(5);
        boolean evenly = !oneIn(4);
        for (int i = 0; i < people; i++) {
            someone(evenly);
        }
        for (int i = 0; i < people; i++) {
            if (oneIn(2)) {
                add("kin", someone(), someone(), 1);
            }
        }
        for (int i = 0; i < 5; i++) {
            someText();
        }
        while (calls.size() < length) {
            if (oneIn(3)) {
                act();
            } else {
                think(THOUGHTS[upTo(THOUGHTS.length - 1)]);
            }
        }
        return calls;
    }
}
