import java.util.ArrayList;
import java.util.HashMap;
import java.util.HashSet;
import java.util.List;
import java.util.Map;
import java.util.Set;
import java.util.TreeMap;

/**
 * A second, plain telling of the document, for comparison: it goes by maps, lists, trees and by trying
 * everything, so that it shares no way of working with the class under test.
 */
final class PlainValley {
    static final class Person {
        int side;
        int temper;
        int hope;
        int home;
        int wed = -1;
        Set<Integer> kin = new HashSet<>();

        Person copy() {
            Person p = new Person();
            p.side = side;
            p.temper = temper;
            p.hope = hope;
            p.home = home;
            p.wed = wed;
            p.kin = new HashSet<>(kin);
            return p;
        }
    }

    /** A tree of THE LAW: an operation over others, a number or a name. */
    record Node(String op, int number, List<Node> parts) {
        int value(Map<String, Integer> names) {
            switch (op) {
                case "#":
                    return number;
                case "not":
                    return parts.get(0).value(names) != 0 ? 0 : 1;
                case "and":
                    for (Node n : parts) {
                        if (n.value(names) == 0) {
                            return 0;
                        }
                    }
                    return 1;
                case "or":
                    for (Node n : parts) {
                        if (n.value(names) != 0) {
                            return 1;
                        }
                    }
                    return 0;
                default:
                    break;
            }
            if (parts.isEmpty()) {
                return names.getOrDefault(op, 0);
            }
            int a = parts.get(0).value(names);
            int b = parts.get(1).value(names);
            return switch (op) {
                case "+" -> a + b;
                case "-" -> a - b;
                case "*" -> a * b;
                case "/" -> a / b;
                case "<" -> a < b ? 1 : 0;
                case "=" -> a == b ? 1 : 0;
                case ">" -> a > b ? 1 : 0;
                default -> throw new IllegalStateException(op);
            };
        }
    }

    record LawLine(String word, Node value, Node when) {
    }

    static final class All {
        int w = 5;
        int h = 4;
        int wind = 1;
        int steep = 60;
        int odds = 0;
        int next = 0;
        int day = 0;
        int state = 0;
        TreeMap<Integer, Integer> snow = new TreeMap<>();
        List<Person> folk = new ArrayList<>();
        List<LawLine> law = new ArrayList<>();
        List<int[]> vows = new ArrayList<>();
        List<int[]> weather = new ArrayList<>();
        List<int[]> wants = new ArrayList<>();
        List<int[]> stirs = new ArrayList<>();
        List<int[]> book = new ArrayList<>();

        All(int w, int h) {
            this.w = w;
            this.h = h;
            for (int y = 0; y < h; y++) {
                for (int x = 0; x < w; x++) {
                    snow.put(8 * y + x, 10);
                }
            }
        }

        All copy() {
            All o = new All(w, h);
            o.wind = wind;
            o.steep = steep;
            o.odds = odds;
            o.next = next;
            o.day = day;
            o.state = state;
            o.snow = new TreeMap<>(snow);
            for (Person p : folk) {
                o.folk.add(p.copy());
            }
            o.law = new ArrayList<>(law);
            o.vows = new ArrayList<>(vows);
            o.weather = new ArrayList<>(weather);
            o.wants = new ArrayList<>(wants);
            o.stirs = new ArrayList<>(stirs);
            o.book = new ArrayList<>(book);
            return o;
        }
    }

    private All now = new All(5, 4);
    private All image;
    private List<All> past = new ArrayList<>();
    private List<Integer> tape = new ArrayList<>();
    private int fault = 0;
    private int place = -1;

    private void remember() {
        past.add(now.copy());
        if (past.size() > 6) {
            past.remove(0);
        }
    }

    private boolean is(int p) {
        return p >= 0 && p < now.folk.size();
    }

    private boolean field(int f) {
        return now.snow.containsKey(f);
    }

    private static boolean in(int v, int a, int b) {
        return a <= v && v <= b;
    }

    int state(int v) {
        int o = now.state;
        now.state = v;
        past.clear();
        return o;
    }

    boolean valley(int w, int h) {
        if (!in(w, 3, 8) || !in(h, 3, 7)) {
            return false;
        }
        int s = now.state;
        now = new All(w, h);
        now.state = s;
        past.clear();
        return true;
    }

    int person(int side, int temper, int hope, int home) {
        if (!in(side, 0, 1) || !in(temper, 0, 9) || !in(hope, 0, 9) || !field(home) || now.folk.size() == 12) {
            return -1;
        }
        Person p = new Person();
        p.side = side;
        p.temper = temper;
        p.hope = hope;
        p.home = home;
        now.folk.add(p);
        past.clear();
        return now.folk.size() - 1;
    }

    boolean set(int what, int who, int v) {
        boolean ok = switch (what) {
            case 0 -> in(v, 0, 3);
            case 1 -> in(v, 1, 99);
            case 2 -> in(v, 0, 1000);
            case 3 -> field(who) && in(v, 0, 99);
            case 4, 5 -> is(who) && in(v, 0, 9);
            default -> false;
        };
        if (!ok) {
            return false;
        }
        switch (what) {
            case 0 -> now.wind = v;
            case 1 -> now.steep = v;
            case 2 -> now.odds = v;
            case 3 -> now.snow.put(who, v);
            case 4 -> now.folk.get(who).temper = v;
            default -> now.folk.get(who).hope = v;
        }
        past.clear();
        return true;
    }

    boolean kin(int a, int b, boolean is) {
        if (!is(a) || !is(b) || a == b) {
            return false;
        }
        if (is) {
            now.folk.get(a).kin.add(b);
            now.folk.get(b).kin.add(a);
        } else {
            now.folk.get(a).kin.remove(b);
            now.folk.get(b).kin.remove(a);
        }
        past.clear();
        return true;
    }

    private boolean canVow(All v, int a, int b) {
        return v.folk.get(a).wed < 0 && v.folk.get(b).wed < 0 && v.folk.get(a).side != v.folk.get(b).side;
    }

    int vow(int a, int b, int f) {
        if (!is(a) || !is(b) || !field(f) || !canVow(now, a, b)) {
            return -1;
        }
        remember();
        return doVow(now, a, b, f);
    }

    private static int clamp(int v, int most) {
        return v < 0 ? 0 : v > most ? most : v;
    }

    private static int tell(All v, String word, Map<String, Integer> names, int otherwise) {
        names.put("day", v.day);
        for (LawLine l : v.law) {
            if (l.word.equals(word) && (l.when == null || l.when.value(names) != 0)) {
                return l.value.value(names);
            }
        }
        return otherwise;
    }

    private static int matchWith(All v, int a, int b, int ta, int tb) {
        Map<String, Integer> names = new HashMap<>();
        names.put("temper", ta);
        names.put("other", tb);
        names.put("hope", v.folk.get(a).hope);
        names.put("wish", v.folk.get(b).hope);
        names.put("kin", v.folk.get(a).kin.contains(b) ? 1 : 0);
        names.put("apart", Math.abs(ta - tb));
        return clamp(tell(v, "match", names, 9 - Math.abs(ta - tb)), 9);
    }

    private static int matchFor(All v, int a, int b) {
        return matchWith(v, a, b, v.folk.get(a).temper, v.folk.get(b).temper);
    }

    private static int found(All v, int a, int b) {
        return Math.min(matchFor(v, a, b), matchFor(v, b, a));
    }

    private static int dist(int f, int g) {
        return Math.abs(f % 8 - g % 8) + Math.abs(f / 8 - g / 8);
    }

    private static int liftAt(All v, int a, int b, int at, int f) {
        Map<String, Integer> names = new HashMap<>();
        int found = found(v, a, b);
        names.put("found", found);
        names.put("far", dist(at, f));
        names.put("snow", v.snow.get(f));
        names.put("kin", v.folk.get(a).kin.contains(b) ? 1 : 0);
        names.put("apart", Math.abs(v.folk.get(a).temper - v.folk.get(b).temper));
        return clamp(tell(v, "lift", names, 2 * found - dist(at, f)), 99);
    }

    private static int melt(All v, int f) {
        Map<String, Integer> names = new HashMap<>();
        names.put("snow", v.snow.get(f));
        return clamp(tell(v, "melt", names, 0), 99);
    }

    private static Integer toward(All v, int f, int wind) {
        int x = f % 8;
        int y = f / 8;
        switch (wind) {
            case 0 -> y--;
            case 1 -> x++;
            case 2 -> y++;
            default -> x--;
        }
        return x < 0 || y < 0 || x >= v.w || y >= v.h ? null : Integer.valueOf(8 * y + x);
    }

    private static void write(All v, int what, int first, int much) {
        if (v.book.size() < 150) {
            v.book.add(new int[] {v.day, what, first, much});
        }
    }

    private static int doVow(All v, int a, int b, int at) {
        int found = found(v, a, b);
        TreeMap<Integer, Integer> then = new TreeMap<>(v.snow);
        int all = 0;
        int up = 0;
        for (int f : v.snow.keySet()) {
            int lift = liftAt(v, a, b, at, f);
            int much = found >= 6 ? lift : found >= 3 ? lift / 2 : 0;
            much = Math.min(much, v.snow.get(f));
            all += much;
            then.merge(f, -much, Integer::sum);
            Integer to = found >= 6 ? null : toward(v, f, v.wind);
            if (to == null) {
                up += much;
            } else {
                then.merge(to, much, Integer::sum);
            }
        }
        then.replaceAll((f, s) -> Math.min(99, s));
        v.snow = then;
        v.next += up;
        v.folk.get(a).wed = b;
        v.folk.get(b).wed = a;
        write(v, found >= 6 ? 0 : found >= 3 ? 1 : 2, a, all);
        return found;
    }

    boolean part(int a, int b) {
        if (!is(a) || !is(b) || now.folk.get(a).wed != b || now.folk.get(b).wed != a) {
            return false;
        }
        remember();
        now.folk.get(a).wed = -1;
        now.folk.get(b).wed = -1;
        write(now, 5, Math.min(a, b), 0);
        return true;
    }

    int sweep(int f) {
        if (!field(f)) {
            return -1;
        }
        remember();
        int s = now.snow.put(f, 0);
        write(now, 6, f, s);
        return s;
    }

    private int draw(All v, int m) {
        v.state = v.state * 1664525 + 1013904223;
        long bits = (v.state & 0xffffffffL) / 256;
        return (int) (bits % m);
    }

    private int aDay(All v, boolean thought) {
        for (int f : v.snow.keySet()) {
            v.snow.put(f, Math.min(99, v.snow.get(f) + weatherAt(v, v.day)));
        }
        int made = 0;
        for (int i = 0; i < v.vows.size(); i++) {
            int[] l = v.vows.get(i);
            if (l[0] != v.day) {
                continue;
            }
            if (canVow(v, l[1], l[2])) {
                doVow(v, l[1], l[2], l[3]);
                made++;
            } else {
                write(v, 3, i, 0);
            }
        }
        if (v.odds > 0 && !thought) {
            for (int f : v.snow.keySet()) {
                if (v.snow.get(f) >= v.steep && draw(v, 1000) < v.odds) {
                    int half = v.snow.get(f) / 2;
                    v.snow.put(f, v.snow.get(f) - half);
                    if (v.snow.containsKey(f + 8)) {
                        v.snow.put(f + 8, Math.min(99, v.snow.get(f + 8) + half));
                    }
                    write(v, 4, f, half);
                }
            }
        }
        for (int f : v.snow.keySet()) {
            v.snow.put(f, Math.max(0, v.snow.get(f) - melt(v, f)));
        }
        v.day++;
        return made;
    }

    int days(int n) {
        if (!in(n, 1, 60) || now.day + n > 9999) {
            return -1;
        }
        int made = 0;
        for (int i = 0; i < n; i++) {
            remember();
            made += aDay(now, false);
        }
        return made;
    }

    int feed(int... fives) {
        if (tape.size() + 20 > 400) {
            return -1;
        }
        for (int v : fives) {
            tape.add(v >>> 24);
            tape.add(v >>> 16 & 255);
            tape.add(v >>> 8 & 255);
            tape.add(v & 255);
        }
        return tape.size();
    }

    boolean end(int n) {
        if (n < 0 || n > tape.size()) {
            return false;
        }
        tape = new ArrayList<>(tape.subList(0, n));
        return true;
    }

    /** The place where a text is wrong, and why. */
    private static final class Wrong extends Exception {
        private static final long serialVersionUID = 1L;
        final int fault;
        final int place;

        Wrong(int fault, int place) {
            this.fault = fault;
            this.place = place;
        }
    }

    private List<String> words;
    private List<Integer> places;
    private int cursor;

    private void cutIntoWords(String text) {
        words = new ArrayList<>();
        places = new ArrayList<>();
        java.util.regex.Matcher m = java.util.regex.Pattern.compile("[a-zA-Z]+|[0-9]+|[^ \n]", java.util.regex.Pattern.DOTALL).matcher(text);
        while (m.find()) {
            words.add(m.group());
            places.add(m.start());
        }
        words.add("");
        places.add(text.length());
        cursor = 0;
    }

    private String peek() {
        return words.get(cursor);
    }

    private int here() {
        return places.get(cursor);
    }

    private void need(String word) throws Wrong {
        if (!peek().equals(word)) {
            throw new Wrong(1, here());
        }
        cursor++;
    }

    private boolean isNumber() {
        return peek().matches("[0-9]{1,4}");
    }

    private int number() throws Wrong {
        if (!isNumber()) {
            throw new Wrong(1, here());
        }
        return Integer.parseInt(words.get(cursor++));
    }

    private int number(int a, int b) throws Wrong {
        int p = here();
        int v = number();
        if (!in(v, a, b)) {
            throw new Wrong(2, p);
        }
        return v;
    }

    private int fieldNumber() throws Wrong {
        int p = here();
        int v = number();
        if (!field(v)) {
            throw new Wrong(2, p);
        }
        return v;
    }

    private int personNumber(int unlike) throws Wrong {
        int p = here();
        int v = number();
        if (!is(v) || unlike >= 0 && now.folk.get(unlike).side == now.folk.get(v).side) {
            throw new Wrong(2, p);
        }
        return v;
    }

    private static final Set<String> NAMES =
            Set.of("temper", "hope", "other", "wish", "kin", "apart", "far", "snow", "found", "day");

    private Node unit() throws Wrong {
        if (isNumber()) {
            return new Node("#", number(), List.of());
        }
        if (!NAMES.contains(peek())) {
            throw new Wrong(1, here());
        }
        return new Node(words.get(cursor++), 0, List.of());
    }

    private Node term() throws Wrong {
        Node n = unit();
        while (true) {
            if (peek().equals("*")) {
                cursor++;
                n = new Node("*", 0, List.of(n, unit()));
            } else if (peek().equals("/")) {
                cursor++;
                int p = here();
                int v = number();
                if (v == 0) {
                    throw new Wrong(2, p);
                }
                n = new Node("/", 0, List.of(n, new Node("#", v, List.of())));
            } else {
                return n;
            }
        }
    }

    private Node expression() throws Wrong {
        Node n = term();
        while (peek().equals("+") || peek().equals("-")) {
            String op = words.get(cursor++);
            n = new Node(op, 0, List.of(n, term()));
        }
        return n;
    }

    private Node either(int open) throws Wrong {
        List<Node> parts = new ArrayList<>();
        do {
            if (!parts.isEmpty()) {
                cursor++;
            }
            List<Node> both = new ArrayList<>();
            both.add(single(open));
            while (peek().equals("and")) {
                cursor++;
                both.add(single(open));
            }
            parts.add(new Node("and", 0, both));
        } while (peek().equals("or"));
        return new Node("or", 0, parts);
    }

    private Node single(int open) throws Wrong {
        if (peek().equals("not") || peek().equals("(")) {
            if (open + 1 == 9) {
                throw new Wrong(3, here());
            }
            boolean not = words.get(cursor++).equals("not");
            if (not) {
                return new Node("not", 0, List.of(single(open + 1)));
            }
            Node n = either(open + 1);
            need(")");
            return n;
        }
        Node a = expression();
        String op = peek();
        if (!op.equals("<") && !op.equals("=") && !op.equals(">")) {
            throw new Wrong(1, here());
        }
        cursor++;
        return new Node(op, 0, List.of(a, expression()));
    }

    int text(int k) {
        StringBuilder s = new StringBuilder();
        for (int b : tape) {
            s.append((char) b);
        }
        tape.clear();
        fault = 0;
        place = -1;
        if (!in(k, 0, 3)) {
            return -1;
        }
        cutIntoWords(s.toString());
        List<LawLine> law = new ArrayList<>();
        List<int[]> lines = new ArrayList<>();
        try {
            while (!peek().isEmpty()) {
                if (k == 0) {
                    law.add(lawLine(law.size()));
                } else {
                    lines.add(line(k, lines.size()));
                }
                need(";");
            }
        } catch (Wrong w) {
            fault = w.fault;
            place = w.place;
            return -1;
        }
        switch (k) {
            case 0 -> now.law = law;
            case 1 -> now.vows = lines;
            case 2 -> now.weather = lines;
            default -> now.wants = lines;
        }
        if (k == 1 || k == 2) {
            past.clear();
        }
        return k == 0 ? law.size() : lines.size();
    }

    private LawLine lawLine(int ahead) throws Wrong {
        String word = peek();
        if (!Set.of("match", "lift", "melt").contains(word)) {
            throw new Wrong(1, here());
        }
        if (ahead == 16) {
            throw new Wrong(3, here());
        }
        cursor++;
        Node value = expression();
        Node when = null;
        if (peek().equals("when")) {
            cursor++;
            when = either(0);
        }
        return new LawLine(word, value, when);
    }

    private int[] line(int k, int ahead) throws Wrong {
        String word = k == 1 ? "on" : k == 2 ? "for" : "bare";
        if (peek().equals(word) && ahead == (k == 1 ? 16 : 12)) {
            throw new Wrong(3, here());
        }
        need(word);
        if (k == 1) {
            int day = number(0, 999);
            int a = personNumber(-1);
            need("and");
            int b = personNumber(a);
            need("at");
            return new int[] {day, a, b, fieldNumber()};
        }
        if (k == 2) {
            int n = number(1, 60);
            need("snow");
            return new int[] {n, number(0, 30)};
        }
        int f = fieldNumber();
        need("on");
        int day = number(0, 999);
        need("worth");
        return new int[] {f, day, number(1, 99)};
    }

    int fault(int what) {
        return what == 0 ? fault : what == 1 ? place : -1;
    }

    private static int setOf(Iterable<Integer> people) {
        int s = 0;
        for (int p : people) {
            s += 1 << p;
        }
        return s;
    }

    int of(int p, int what) {
        if (!is(p)) {
            return -2;
        }
        Person q = now.folk.get(p);
        return switch (what) {
            case 0 -> q.side;
            case 1 -> q.temper;
            case 2 -> q.hope;
            case 3 -> q.home;
            case 4 -> q.wed;
            case 5 -> setOf(q.kin);
            default -> -2;
        };
    }

    int match(int a, int b, boolean both) {
        if (!is(a) || !is(b) || a == b) {
            return -1;
        }
        return both ? found(now, a, b) : matchFor(now, a, b);
    }

    int at(int f, int what) {
        return !field(f) ? -2 : what == 0 ? now.snow.get(f) : what == 1 ? melt(now, f) : -2;
    }

    int lift(int a, int b, int at, int f) {
        return !is(a) || !is(b) || a == b || !field(at) || !field(f) ? -1 : liftAt(now, a, b, at, f);
    }

    private static int weatherAt(All v, int day) {
        List<Integer> cycle = new ArrayList<>();
        for (int[] l : v.weather) {
            for (int i = 0; i < l[0]; i++) {
                cycle.add(l[1]);
            }
        }
        return cycle.isEmpty() ? 0 : cycle.get(day % cycle.size());
    }

    int weather(int day) {
        return in(day, 0, 9999) ? weatherAt(now, day) : -1;
    }

    int book(int i, int what) {
        return in(i, 0, now.book.size() - 1) && in(what, 0, 3) ? now.book.get(i)[what] : -1;
    }

    int lies(int f, int n) {
        if (!field(f) || !in(n, 0, 60)) {
            return -1;
        }
        All v = now.copy();
        for (int i = 0; i < n; i++) {
            aDay(v, true);
        }
        return v.snow.get(f);
    }

    int meets(int what) {
        if (!in(what, 0, 2)) {
            return -1;
        }
        All v = now.copy();
        v.book.clear();
        int worth = 0;
        int unmet = -1;
        int last = -1;
        for (int[] l : v.wants) {
            last = Math.max(last, l[1]);
        }
        for (int[] l : v.vows) {
            last = Math.max(last, l[0]);
        }
        while (v.day <= last) {
            int day = v.day;
            aDay(v, true);
            for (int[] b : v.book) {
                if (b[1] == 3 && what == 2) {
                    return b[2];
                }
            }
            v.book.clear();
            for (int i = 0; i < v.wants.size(); i++) {
                int[] l = v.wants.get(i);
                if (l[1] == day) {
                    if (v.snow.get(l[0]) == 0) {
                        worth += l[2];
                    } else if (unmet < 0) {
                        unmet = i;
                    }
                }
            }
        }
        return what == 0 ? worth : what == 1 ? unmet : -1;
    }

    private List<Integer> free(int side) {
        List<Integer> l = new ArrayList<>();
        for (int p = 0; p < now.folk.size(); p++) {
            if (now.folk.get(p).wed < 0 && now.folk.get(p).side == side) {
                l.add(p);
            }
        }
        return l;
    }

    /** Word for word: each of SIDE 0 by number goes down an own list; who is put off goes on at once. */
    private Map<Integer, Integer> settled() {
        Map<Integer, Integer> holder = new HashMap<>();
        Map<Integer, List<Integer>> lists = new HashMap<>();
        for (int a : free(0)) {
            List<Integer> l = free(1);
            l.removeIf(b -> matchFor(now, a, b) == 0);
            l.sort((b, c) -> matchFor(now, a, c) != matchFor(now, a, b) ? matchFor(now, a, c) - matchFor(now, a, b) : b - c);
            lists.put(a, l);
        }
        for (int first : free(0)) {
            Integer asker = first;
            while (asker != null && !lists.get(asker).isEmpty()) {
                int b = lists.get(asker).remove(0);
                Integer now1 = holder.get(b);
                int mine = matchFor(now, b, asker);
                int theirs = now1 == null ? 0 : matchFor(now, b, now1);
                if (mine == 0) {
                    continue;
                }
                if (now1 == null || mine > theirs || mine == theirs && asker < now1) {
                    holder.put(b, asker);
                    asker = now1;
                }
            }
        }
        Map<Integer, Integer> both = new HashMap<>();
        holder.forEach((b, a) -> {
            both.put(b, a);
            both.put(a, b);
        });
        return both;
    }

    int stable(int p) {
        return !is(p) || now.folk.get(p).wed >= 0 ? -1 : settled().getOrDefault(p, -1);
    }

    private int bestSum;
    private Map<Integer, Integer> bestWay;

    /** All ways in the order in which the first is to be found. */
    private void tryAll(List<Integer> left, List<Integer> right, Map<Integer, Integer> way, int sum, int[][] founds) {
        if (left.isEmpty()) {
            if (sum > bestSum) {
                bestSum = sum;
                bestWay = new HashMap<>(way);
            }
            return;
        }
        int a = left.get(0);
        List<Integer> rest = left.subList(1, left.size());
        for (int b : right) {
            List<Integer> others = new ArrayList<>(right);
            others.remove(Integer.valueOf(b));
            way.put(a, b);
            way.put(b, a);
            tryAll(rest, others, way, sum + founds[a][b], founds);
            way.remove(a);
            way.remove(b);
        }
        tryAll(rest, right, way, sum, founds);
    }

    int best(int what) {
        bestSum = -1;
        int[][] founds = new int[12][12];
        for (int a : free(0)) {
            for (int b : free(1)) {
                founds[a][b] = found(now, a, b);
            }
        }
        tryAll(free(0), free(1), new HashMap<>(), 0, founds);
        return what == 0 ? bestSum : bestWay.getOrDefault(what - 10, -1);
    }

    int bares(int f, int what) {
        if (!field(f) || !in(what, 0, 2)) {
            return -1;
        }
        for (int a : free(0)) {
            for (int b : free(1)) {
                if (found(now, a, b) < 6) {
                    continue;
                }
                for (int at : now.snow.keySet()) {
                    All v = now.copy();
                    doVow(v, a, b, at);
                    if (v.snow.get(f) == 0) {
                        return new int[] {a, b, at}[what];
                    }
                }
            }
        }
        return -1;
    }

    int stir(int p, int v, boolean least) {
        if (p == -1) {
            now.stirs.clear();
            return 0;
        }
        if (!is(p) || !in(v, 0, 9) || now.stirs.size() == 12) {
            return -1;
        }
        now.stirs.add(new int[] {p, v, least ? 1 : 0});
        return now.stirs.size();
    }

    private List<Integer> whoList(int a) {
        List<Integer> l = new ArrayList<>();
        for (int p = 0; p < now.folk.size(); p++) {
            if (now.folk.get(p).side == now.folk.get(a).side) {
                continue;
            }
            boolean ok = true;
            for (int[] s : now.stirs) {
                int f = found(now, a, p);
                ok &= s[0] != a || (s[2] == 1 ? f >= s[1] : f == s[1]);
            }
            if (ok) {
                l.add(p);
            }
        }
        return l;
    }

    int who(int a) {
        return is(a) ? setOf(whoList(a)) : -1;
    }

    int ask(int a) {
        if (!is(a) || whoList(a).size() < 2) {
            return -1;
        }
        int best = -1;
        int least = 99;
        for (int c = 0; c < now.folk.size(); c++) {
            if (c == a || now.folk.get(c).side != now.folk.get(a).side) {
                continue;
            }
            Map<Integer, Integer> count = new HashMap<>();
            int most = 0;
            for (int b : whoList(a)) {
                most = Math.max(most, count.merge(found(now, c, b), 1, Integer::sum));
            }
            if (most < least) {
                least = most;
                best = c;
            }
        }
        return best;
    }

    int fans(int h, int p) {
        if (!in(h, 0, 99) || !in(p, 0, 1000)) {
            return -1;
        }
        java.math.BigInteger up = java.math.BigInteger.valueOf(1000000).multiply(java.math.BigInteger.valueOf(p * (h + 1)));
        return up.divide(java.math.BigInteger.valueOf(p * (h + 1) + (1000 - p) * (100 - h))).intValue();
    }

    /** Steps from a to b, by wave after wave, with some FIELDS closed. */
    private int walk(int a, int b, Set<Integer> closed) {
        Set<Integer> seen = new HashSet<>();
        Set<Integer> wave = new HashSet<>();
        if (now.snow.get(a) >= now.steep || now.snow.get(b) >= now.steep) {
            return -1;
        }
        wave.add(a);
        for (int n = 0; !wave.isEmpty(); n++) {
            if (wave.contains(b)) {
                return n;
            }
            seen.addAll(wave);
            Set<Integer> next = new HashSet<>();
            for (int f : wave) {
                for (int d = 0; d < 4; d++) {
                    Integer g = toward(now, f, d);
                    if (g != null && now.snow.get(g) < now.steep && !seen.contains(g) && !closed.contains(g)) {
                        next.add(g);
                    }
                }
            }
            wave = next;
        }
        return -1;
    }

    int safe(int a, int b) {
        return field(a) && field(b) ? walk(a, b, Set.of()) : -1;
    }

    private boolean canCut(int a, int b, int n, int from, Set<Integer> closed) {
        if (walk(a, b, closed) < 0) {
            return true;
        }
        if (n == 0) {
            return false;
        }
        for (int f : now.snow.keySet()) {
            if (f >= from && f != a && f != b && now.snow.get(f) < now.steep) {
                closed.add(f);
                boolean cut = canCut(a, b, n - 1, f + 1, closed);
                closed.remove(f);
                if (cut) {
                    return true;
                }
            }
        }
        return false;
    }

    int cut(int a, int b) {
        if (!field(a) || !field(b) || dist(a, b) < 2 || now.snow.get(a) >= now.steep || now.snow.get(b) >= now.steep) {
            return -1;
        }
        int n = 0;
        // Four always do: those around an end.
        while (n < 4 && !canCut(a, b, n, 0, new HashSet<>())) {
            n++;
        }
        return n;
    }

    int rounds(int what) {
        Set<Integer> busy = new HashSet<>();
        for (int p = 0; p < now.folk.size(); p++) {
            if (now.folk.get(p).wed >= 0) {
                busy.add(p);
            }
        }
        List<Integer> count = new ArrayList<>();
        for (int i = 0; i < now.vows.size(); i++) {
            int[] l = now.vows.get(i);
            if (!busy.contains(l[1]) && !busy.contains(l[2])) {
                busy.add(l[1]);
                busy.add(l[2]);
                count.add(i);
            }
        }
        int n = count.size();
        for (int days = 0; days <= n; days++) {
            long ways = 1;
            for (int i = 0; i < n; i++) {
                ways *= days;
            }
            for (long way = 0; way < ways; way++) {
                int[] day = new int[n];
                long rest = way;
                for (int i = n - 1; i >= 0; i--) {
                    day[i] = (int) (rest % days);
                    rest /= days;
                }
                if (fine(count, day)) {
                    if (what == 0) {
                        return days;
                    }
                    int i = count.indexOf(what - 10);
                    return i < 0 ? -1 : day[i];
                }
            }
        }
        throw new IllegalStateException();
    }

    private boolean fine(List<Integer> count, int[] day) {
        for (int i = 0; i < day.length; i++) {
            for (int j = 0; j < i; j++) {
                if (day[i] == day[j] && dist(now.vows.get(count.get(i))[3], now.vows.get(count.get(j))[3]) <= 2) {
                    return false;
                }
            }
        }
        return true;
    }

    int comes(int a, int b) {
        if (!is(a) || !is(b) || now.folk.get(a).side == now.folk.get(b).side) {
            return -1;
        }
        All v = now.copy();
        for (int year = 0; year <= 20; year++) {
            if (found(v, a, b) >= 6) {
                return year;
            }
            Person p = v.folk.get(a);
            Person q = v.folk.get(b);
            if (p.temper > q.temper + 1) {
                p.temper--;
                q.temper++;
            } else if (q.temper > p.temper + 1) {
                q.temper--;
                p.temper++;
            }
        }
        return -1;
    }

    int asks() {
        int low = Math.floorDiv(now.next, 10);
        int high = 0;
        for (int[] l : now.wants) {
            high += now.snow.get(l[0]) == 0 ? l[2] : 0;
        }
        return low > high ? -1 : Math.floorDiv(low + high, 2);
    }

    int tribe(int p) {
        if (!is(p)) {
            return -1;
        }
        Set<Integer> all = new HashSet<>();
        List<Integer> todo = new ArrayList<>(List.of(p));
        while (!todo.isEmpty()) {
            int q = todo.remove(0);
            if (all.add(q)) {
                todo.addAll(now.folk.get(q).kin);
            }
        }
        return setOf(all);
    }

    int hopes(int what) {
        int best = -1;
        int bestSet = 0;
        for (int set = 0; set < 1 << now.folk.size(); set++) {
            int sum = 0;
            boolean ok = true;
            for (int p = 0; p < now.folk.size(); p++) {
                if ((set >> p & 1) == 1) {
                    sum += now.folk.get(p).hope;
                    ok &= (setOf(now.folk.get(p).kin) & set) == 0;
                }
            }
            if (ok && sum > best) {
                best = sum;
                bestSet = set;
            }
        }
        return what == 0 ? best : what == 1 ? bestSet : -1;
    }

    boolean undo() {
        if (past.isEmpty()) {
            return false;
        }
        All then = past.remove(past.size() - 1);
        then.law = now.law;
        then.wants = now.wants;
        then.stirs = now.stirs;
        now = then;
        return true;
    }

    boolean image(boolean taken) {
        if (taken) {
            image = now.copy();
            return true;
        }
        if (image == null) {
            return false;
        }
        now = image.copy();
        past.clear();
        return true;
    }

    int look(int what) {
        return switch (what) {
            case 0 -> now.w;
            case 1 -> now.h;
            case 2 -> now.day;
            case 3 -> now.wind;
            case 4 -> now.steep;
            case 5 -> now.odds;
            case 6 -> now.folk.size();
            case 7 -> now.next;
            case 8 -> now.book.size();
            case 9 -> now.state;
            case 10 -> now.law.size();
            case 11 -> now.vows.size();
            case 12 -> now.weather.size();
            case 13 -> now.wants.size();
            case 14 -> now.stirs.size();
            case 15 -> past.size();
            case 16 -> (int) now.snow.values().stream().filter(s -> s == 0).count();
            default -> -1000000;
        };
    }
}
