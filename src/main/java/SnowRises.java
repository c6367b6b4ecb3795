/**
 * An upper valley in which snow rises at weddings. The document (DOC.md) tells its promises; the
 * words in capitals here are the document's.
 */
public final class SnowRises {
    public static final int NONE = -1;

    private static final int NO_SUCH = NONE - 1;
    private static final int NO_LOOK = NONE - 999999;

    private static final int FIELDS = 56;
    private static final int FOLK_MOST = 12;
    private static final int SNOW_MOST = 99;
    private static final int TEMPER_MOST = 9;
    private static final int WORTH_MOST = 99;
    private static final int ODDS_OF = 1000;
    private static final int DAY_MOST = 9999;
    private static final int TOLD_DAY_MOST = 999;
    private static final int DAYS_MOST = 60;
    private static final int YEARS_MOST = 20;
    private static final int FAR_MOST = 13;
    private static final int HALF = 3;
    private static final int RIGHT = 6;

    private static final int TAPE_MOST = 400;
    private static final int LONG_TEXT = 16;
    private static final int SHORT_TEXT = 12;
    private static final int STIRS_MOST = 12;
    private static final int BOOK_MOST = 150;
    private static final int UNDO_MOST = 6;
    private static final int OPEN_MOST = 8;
    private static final int STACK = 48;

    private static final int LAW = 0;
    private static final int VOWS = 1;
    private static final int WEATHER = 2;
    private static final int WANTS = 3;

    // What a line of THE BOOK is about.
    private static final int WAS_RIGHT = 0;
    private static final int WAS_HALF = 1;
    private static final int WAS_OTHER = 2;
    private static final int WAS_VOID = 3;
    private static final int WAS_AVALANCHE = 4;
    private static final int WAS_PARTED = 5;
    private static final int WAS_SWEPT = 6;

    // Kinds of TOKENS; a sign's kind is its own number, which is above all of these.
    private static final int TEXT_END = 0;
    private static final int NUMBER = 1;
    private static final int NO_TOKEN = 2;
    private static final int FIRST_WORD = 3;
    private static final int MATCH = 3;
    private static final int LIFT = 4;
    private static final int MELT = 5;
    private static final int WHEN = 6;
    private static final int OR = 7;
    private static final int AND = 8;
    private static final int NOT = 9;
    private static final int TEMPER = 10;
    private static final int HOPE = 11;
    private static final int OTHER = 12;
    private static final int WISH = 13;
    private static final int KIN = 14;
    private static final int APART = 15;
    private static final int FAR = 16;
    private static final int SNOW = 17;
    private static final int FOUND = 18;
    private static final int DAY = 19;
    private static final int ON = 20;
    private static final int AT = 21;
    private static final int FOR = 22;
    private static final int BARE = 23;
    private static final int WORTH = 24;
    // One list for all four TEXTS: a KEYWORD of another TEXT can't stand, just as a word that is none.
    private static final String WORDS =
            "match lift melt when or and not temper hope other wish kin apart far snow found day on at for bare worth ";
    private static final String SIGNS = ";+-*/()<=>";

    private final World now;
    // Days are lived through here in thought, and a TEXT is read into it before it is told.
    private final World thought;
    private World kept;
    private final Past past;
    private final Tape tape;
    private final Reader reader;
    private final Couples couples;
    private final Ways ways;
    private final Rounds plan;

    public SnowRises() {
        now = new World(BOOK_MOST);
        // Nothing of what is thought is written into THE BOOK.
        thought = new World(0);
        kept = null;
        past = new Past();
        tape = new Tape();
        reader = new Reader(tape, now, thought);
        couples = new Couples();
        ways = new Ways();
        plan = new Rounds();
    }

    public int state(int v) {
        int was = now.draws;
        now.draws = v;
        past.count = 0;
        return was;
    }

    public boolean valley(int w, int h) {
        if (w < 3 || w > 8 || h < 3 || h > 7) {
            return false;
        }
        now.begin(w, h);
        past.count = 0;
        return true;
    }

    public int person(int side, int temper, int hope, int home) {
        if (!within(side, 1) || !within(temper, TEMPER_MOST) || !within(hope, TEMPER_MOST) || !now.hasField(home)) {
            return NONE;
        }
        int number = now.folk.add(side, temper, hope, home);
        if (number != NONE) {
            past.count = 0;
        }
        return number;
    }

    public boolean set(int what, int who, int v) {
        boolean told = what <= 2 ? setValley(what, v) : setOne(what, who, v);
        if (told) {
            past.count = 0;
        }
        return told;
    }

    private boolean setValley(int what, int v) {
        if (what == 0 && within(v, 3)) {
            now.wind = v;
            return true;
        }
        if (what == 1 && v >= 1 && v <= SNOW_MOST) {
            now.steep = v;
            return true;
        }
        if (what == 2 && within(v, ODDS_OF)) {
            now.odds = v;
            return true;
        }
        return false;
    }

    private boolean setOne(int what, int who, int v) {
        if (what == 3 && now.hasField(who) && within(v, SNOW_MOST)) {
            now.snow[who] = v;
            return true;
        }
        if (!now.folk.has(who) || !within(v, TEMPER_MOST)) {
            return false;
        }
        if (what == 4) {
            now.folk.temper[who] = v;
            return true;
        }
        if (what == 5) {
            now.folk.hope[who] = v;
            return true;
        }
        return false;
    }

    public boolean kin(int a, int b, boolean is) {
        if (!now.folk.areTwo(a, b)) {
            return false;
        }
        now.folk.makeKin(a, b, is);
        past.count = 0;
        return true;
    }

    public int vow(int a, int b, int field) {
        if (!now.hasField(field) || !now.folk.canWed(a, b)) {
            return NONE;
        }
        past.keep(now);
        return now.makeVow(a, b, field);
    }

    public boolean part(int a, int b) {
        if (!now.folk.areTwo(a, b) || now.folk.wed[a] != b) {
            return false;
        }
        past.keep(now);
        now.folk.wed[a] = NONE;
        now.folk.wed[b] = NONE;
        now.note(WAS_PARTED, Math.min(a, b), 0);
        return true;
    }

    public int sweep(int field) {
        if (!now.hasField(field)) {
            return NONE;
        }
        past.keep(now);
        int much = now.snow[field];
        now.snow[field] = 0;
        now.note(WAS_SWEPT, field, much);
        return much;
    }

    public int days(int n) {
        if (n < 1 || n > DAYS_MOST || now.day + n > DAY_MOST) {
            return NONE;
        }
        int made = 0;
        for (int i = 0; i < n; i++) {
            past.keep(now);
            made += now.passDay();
        }
        return made;
    }

    public int feed(int a, int b, int c, int d, int e) {
        if (tape.size + 20 > TAPE_MOST) {
            return NONE;
        }
        tape.put(a);
        tape.put(b);
        tape.put(c);
        tape.put(d);
        tape.put(e);
        return tape.size;
    }

    public boolean end(int n) {
        if (n < 0 || n > tape.size) {
            return false;
        }
        tape.size = n;
        return true;
    }

    public int text(int k) {
        if (k < LAW || k > WANTS) {
            tape.size = 0;
            reader.fault = 0;
            reader.faultPlace = NONE;
            return NONE;
        }
        tape.split();
        tape.size = 0;
        if (!reader.reads(k)) {
            return NONE;
        }
        if (k == VOWS || k == WEATHER) {
            past.count = 0;
        }
        return now.take(k, thought);
    }

    public int fault(int what) {
        if (what == 0) {
            return reader.fault;
        }
        return what == 1 ? reader.faultPlace : NONE;
    }

    public int of(int person, int what) {
        Folk folk = now.folk;
        if (!folk.has(person)) {
            return NO_SUCH;
        }
        switch (what) {
            case 0:
                return folk.side[person];
            case 1:
                return folk.temper[person];
            case 2:
                return folk.hope[person];
            case 3:
                return folk.home[person];
            case 4:
                return folk.wed[person];
            case 5:
                return folk.kin[person];
            default:
                return NO_SUCH;
        }
    }

    public int match(int a, int b, boolean found) {
        if (!now.folk.areTwo(a, b)) {
            return NONE;
        }
        return found ? now.foundOf(a, b) : now.matchOf(a, b);
    }

    public int at(int field, int what) {
        if (!now.hasField(field)) {
            return NO_SUCH;
        }
        if (what == 0) {
            return now.snow[field];
        }
        return what == 1 ? now.meltOf(now.snow[field]) : NO_SUCH;
    }

    public int lift(int a, int b, int at, int field) {
        if (!now.folk.areTwo(a, b) || !now.hasField(at) || !now.hasField(field)) {
            return NONE;
        }
        return now.liftOf(a, b, now.foundOf(a, b), steps(at, field), now.snow[field]);
    }

    public int weather(int day) {
        return within(day, DAY_MOST) ? now.weatherOf(day) : NONE;
    }

    public int book(int i, int what) {
        if (i < 0 || i >= now.book.count || what < 0 || what > 3) {
            return NONE;
        }
        return now.book.cell(i, what);
    }

    public int lies(int field, int n) {
        if (!now.hasField(field) || !within(n, DAYS_MOST)) {
            return NONE;
        }
        beginThought();
        for (int i = 0; i < n; i++) {
            thought.passDay();
        }
        return thought.snow[field];
    }

    public int meets(int what) {
        if (what == 2) {
            return now.firstVoid();
        }
        if (what != 0 && what != 1) {
            return NONE;
        }
        beginThought();
        int last = now.wants.greatest(1);
        int worth = 0;
        for (int day = now.day; day <= last; day++) {
            thought.passDay();
            int unmet = thought.unmetWant(day);
            if (what == 1 && unmet != NONE) {
                return unmet;
            }
            worth += thought.worthMet(day);
        }
        return what == 0 ? worth : NONE;
    }

    public int stable(int person) {
        if (!now.folk.isFree(person)) {
            return NONE;
        }
        couples.settle(now);
        return couples.has[person];
    }

    public int best(int what) {
        if (what == 0) {
            return couples.pair(now);
        }
        int person = what < 10 ? NONE : what - 10;
        if (!now.folk.isFree(person)) {
            return NONE;
        }
        couples.pair(now);
        return couples.has[person];
    }

    public int bares(int field, int what) {
        if (!now.hasField(field) || !within(what, 2)) {
            return NONE;
        }
        int way = couples.baring(now, field);
        if (way == NONE) {
            return NONE;
        }
        if (what == 2) {
            return way % FIELDS;
        }
        int couple = way / FIELDS;
        return what == 0 ? couple / FOLK_MOST : couple % FOLK_MOST;
    }

    public int stir(int person, int v, boolean least) {
        if (person == NONE) {
            now.stirs.count = 0;
            return 0;
        }
        if (!now.folk.has(person) || !within(v, TEMPER_MOST)) {
            return NONE;
        }
        return now.stirs.add(person, v, least ? 1 : 0, 0) ? now.stirs.count : NONE;
    }

    public int who(int person) {
        return now.folk.has(person) ? now.whoCanBe(person) : NONE;
    }

    public int ask(int person) {
        if (!now.folk.has(person)) {
            return NONE;
        }
        int set = now.whoCanBe(person);
        return Integer.bitCount(set) < 2 ? NONE : couples.nextToPass(now, person, set);
    }

    public int fans(int h, int p) {
        if (!within(h, 99) || !within(p, 1000)) {
            return NONE;
        }
        long forged = (long) p * (h + 1);
        long all = forged + (1000L - p) * (100 - h);
        return all <= 0 ? NONE : (int) (1000000L * forged / all);
    }

    public int safe(int a, int b) {
        return now.hasField(a) && now.hasField(b) ? ways.fewestSteps(now, a, b) : NONE;
    }

    public int cut(int a, int b) {
        if (!now.hasField(a) || !now.hasField(b) || steps(a, b) < 2 || now.isSteep(a) || now.isSteep(b)) {
            return NONE;
        }
        return ways.fewestToCut(now, a, b);
    }

    public int rounds(int what) {
        plan.make(now);
        if (what == 0) {
            return plan.days;
        }
        return what >= 10 && what - 10 < now.vows.count ? plan.dayOf(what - 10) : NONE;
    }

    public int comes(int a, int b) {
        Folk folk = now.folk;
        if (!folk.areTwo(a, b) || folk.side[a] == folk.side[b]) {
            return NONE;
        }
        int one = folk.temper[a];
        int other = folk.temper[b];
        for (int year = 0; year <= YEARS_MOST; year++) {
            if (Math.min(now.matchBy(a, b, one, other), now.matchBy(b, a, other, one)) >= RIGHT) {
                return year;
            }
            if (Math.abs(one - other) > 1) {
                int step = one > other ? -1 : 1;
                one += step;
                other -= step;
            }
        }
        return NONE;
    }

    public int asks() {
        int least = Math.floorDiv(now.next, 10);
        int most = now.worthBare();
        return least > most ? NONE : Math.floorDiv(least + most, 2);
    }

    public int tribe(int person) {
        return now.folk.has(person) ? now.folk.allKinOf(person) : NONE;
    }

    public int hopes(int what) {
        if (what != 0 && what != 1) {
            return NONE;
        }
        int best = Folk.hopeAmong(now.folk, (1 << now.folk.count) - 1, now.folk.count - 1);
        return what == 0 ? best >> FOLK_MOST : Folk.EVERYBODY - (best & Folk.EVERYBODY);
    }

    public boolean undo() {
        return past.giveBack(now);
    }

    public boolean image(boolean taken) {
        if (taken) {
            if (kept == null) {
                kept = new World(BOOK_MOST);
            }
            kept.copy(now);
            return true;
        }
        if (kept == null) {
            return false;
        }
        now.copy(kept);
        past.count = 0;
        return true;
    }

    public int look(int what) {
        switch (what) {
            case 0:
                return now.w;
            case 1:
                return now.h;
            case 2:
                return now.day;
            case 3:
                return now.wind;
            case 4:
                return now.steep;
            case 5:
                return now.odds;
            case 6:
                return now.folk.count;
            case 7:
                return now.next;
            case 8:
                return now.book.count;
            case 9:
                return now.draws;
            case 10:
                return now.law.count;
            case 11:
                return now.vows.count;
            case 12:
                return now.weather.count;
            case 13:
                return now.wants.count;
            case 14:
                return now.stirs.count;
            case 15:
                return past.count;
            case 16:
                return now.bareFields();
            default:
                return NO_LOOK;
        }
    }

    private void beginThought() {
        thought.copy(now);
        // Without ODDS a DAY makes no DRAW and no avalanche, as it must be in thought.
        thought.odds = 0;
    }

    private static boolean within(int v, int most) {
        return v >= 0 && v <= most;
    }

    private static int held(int v, int most) {
        return Math.max(0, Math.min(v, most));
    }

    /** Steps by x and y from one FIELD to another one. */
    private static int steps(int f, int g) {
        return Math.abs((f & 7) - (g & 7)) + Math.abs((f >> 3) - (g >> 3));
    }

    /** Lines of up to four numbers each. */
    private static final class Rows {
        private static final int WIDTH = 4;

        final int[] cells;
        final int most;
        int count;

        Rows(int most) {
            this.most = Math.max(0, most);
            cells = new int[this.most * WIDTH];
            count = 0;
        }

        boolean add(int a, int b, int c, int d) {
            if (count >= most) {
                return false;
            }
            int from = count * WIDTH;
            cells[from] = a;
            cells[from + 1] = b;
            cells[from + 2] = c;
            cells[from + 3] = d;
            count++;
            return true;
        }

        /** A cell of a line that there is; 0 for any other. */
        int cell(int line, int column) {
            if (line < 0 || line >= count || column < 0 || column >= WIDTH) {
                return 0;
            }
            return cells[line * WIDTH + column];
        }

        /** The greatest number of a column; NONE without lines. */
        int greatest(int column) {
            int most = NONE;
            for (int i = 0; i < count; i++) {
                most = Math.max(most, cell(i, column));
            }
            return most;
        }

        void copy(Rows from) {
            count = Math.min(from.count, most);
            System.arraycopy(from.cells, 0, cells, 0, count * WIDTH);
        }
    }

    /** The PEOPLE: SIDES, TEMPERS and so on by their numbers. */
    private static final class Folk {
        static final int EVERYBODY = (1 << FOLK_MOST) - 1;

        final int[] side = new int[FOLK_MOST];
        final int[] temper = new int[FOLK_MOST];
        final int[] hope = new int[FOLK_MOST];
        final int[] home = new int[FOLK_MOST];
        final int[] wed = new int[FOLK_MOST];
        final int[] kin = new int[FOLK_MOST];
        int count;

        int add(int ofSide, int ofTemper, int ofHope, int ofHome) {
            if (count >= FOLK_MOST) {
                return NONE;
            }
            side[count] = ofSide;
            temper[count] = ofTemper;
            hope[count] = ofHope;
            home[count] = ofHome;
            wed[count] = NONE;
            kin[count] = 0;
            count++;
            return count - 1;
        }

        boolean has(int p) {
            return p >= 0 && p < count;
        }

        boolean areTwo(int a, int b) {
            return has(a) && has(b) && a != b;
        }

        boolean isFree(int p) {
            return has(p) && wed[p] == NONE;
        }

        boolean canWed(int a, int b) {
            return isFree(a) && isFree(b) && side[a] != side[b];
        }

        boolean areKin(int a, int b) {
            return (kin[a] >> b & 1) == 1;
        }

        void makeKin(int a, int b, boolean is) {
            if (is) {
                kin[a] |= 1 << b;
                kin[b] |= 1 << a;
            } else {
                kin[a] &= ~(1 << b);
                kin[b] &= ~(1 << a);
            }
        }

        int wedSet() {
            int set = 0;
            for (int p = 0; p < count; p++) {
                if (wed[p] != NONE) {
                    set |= 1 << p;
                }
            }
            return set;
        }

        /** TRIBE: every round adds the KIN of all who are in already, so as many rounds as PEOPLE do. */
        int allKinOf(int person) {
            int set = 1 << person;
            for (int round = 0; round < count; round++) {
                for (int p = 0; p < count; p++) {
                    if ((set >> p & 1) == 1) {
                        set |= kin[p];
                    }
                }
            }
            return set;
        }

        /**
         * HOPES among those of a set from p downwards, as sum * 4096 + (4095 less the set): the
         * greatest such number has the greatest sum and of its sets the least.
         */
        private static int hopeAmong(Folk folk, int set, int p) {
            if (p < 0 || p >= FOLK_MOST) {
                return EVERYBODY;
            }
            int without = set & ~(1 << p);
            if (without == set || folk.hope[p] == 0) {
                return hopeAmong(folk, without, p - 1);
            }
            int with = (folk.hope[p] << FOLK_MOST) - (1 << p) + hopeAmong(folk, without & ~folk.kin[p], p - 1);
            return (folk.kin[p] & without) == 0 ? with : Math.max(with, hopeAmong(folk, without, p - 1));
        }

        void copy(Folk from) {
            count = from.count;
            System.arraycopy(from.side, 0, side, 0, FOLK_MOST);
            System.arraycopy(from.temper, 0, temper, 0, FOLK_MOST);
            System.arraycopy(from.hope, 0, hope, 0, FOLK_MOST);
            System.arraycopy(from.home, 0, home, 0, FOLK_MOST);
            System.arraycopy(from.wed, 0, wed, 0, FOLK_MOST);
            System.arraycopy(from.kin, 0, kin, 0, FOLK_MOST);
        }
    }

    /**
     * THE LAW, each line as code for a stack: a number of 0 or more is itself, NAMED less the place in
     * told is a name's value, the rest are the signs and words that join what is on the stack.
     */
    private static final class Law {
        static final int NAMED = -1;
        static final int NAMES = DAY - TEMPER + 1;
        static final int NOT_CODE = NAMED - NAMES - NOT;

        final int[] code = new int[TAPE_MOST];
        final int[] about = new int[LONG_TEXT];
        final int[] start = new int[LONG_TEXT + 1];
        // Where the code of a line's B begins: the line's end, if it has none.
        final int[] when = new int[LONG_TEXT];
        final int[] told = new int[NAMES];
        final int[] stack = new int[STACK];
        int count;
        int size;

        void clear() {
            count = 0;
            size = 0;
            start[0] = 0;
        }

        static int codeOfName(int kind) {
            return NAMED - (kind - TEMPER);
        }

        /** A token that joins, as code: below those of all names. */
        static int codeOfJoint(int kind) {
            return NAMED - NAMES - kind;
        }

        void put(int what) {
            if (size < TAPE_MOST) {
                code[size] = what;
                size++;
            }
        }

        void forgetNames() {
            for (int i = 0; i < NAMES; i++) {
                told[i] = 0;
            }
        }

        void name(int kind, int value) {
            int i = kind - TEMPER;
            if (i >= 0 && i < NAMES) {
                told[i] = value;
            }
        }

        /** What it tells for a word, by the names told. */
        int tell(int word, int otherwise) {
            for (int i = 0; i < count && i < LONG_TEXT; i++) {
                if (about[i] == word && (when[i] == start[i + 1] || run(when[i], start[i + 1]) != 0)) {
                    return run(start[i], when[i]);
                }
            }
            return otherwise;
        }

        private int run(int from, int to) {
            int top = 0;
            for (int i = Math.max(0, from); i < to && i < TAPE_MOST; i++) {
                int c = code[i];
                if (c > NAMED - NAMES) {
                    if (top < STACK) {
                        stack[top] = c >= 0 ? c : told[NAMED - c];
                        top++;
                    }
                } else if (c == NOT_CODE) {
                    if (top > 0) {
                        stack[top - 1] = 1 - stack[top - 1];
                    }
                } else if (top > 1) {
                    top--;
                    stack[top - 1] = joined(NAMED - NAMES - c, stack[top - 1], stack[top]);
                }
            }
            return top > 0 ? stack[top - 1] : 0;
        }

        private static int joined(int kind, int a, int b) {
            switch (kind) {
                case '+':
                    return a + b;
                case '-':
                    return a - b;
                case '*':
                    return a * b;
                case '/':
                    return b == 0 ? 0 : a / b;
                case '<':
                    return a < b ? 1 : 0;
                case '=':
                    return a == b ? 1 : 0;
                case '>':
                    return a > b ? 1 : 0;
                case AND:
                    return a & b;
                default:
                    return a | b;
            }
        }

        void copy(Law from) {
            count = from.count;
            size = from.size;
            System.arraycopy(from.code, 0, code, 0, Math.min(size, TAPE_MOST));
            System.arraycopy(from.about, 0, about, 0, LONG_TEXT);
            System.arraycopy(from.start, 0, start, 0, LONG_TEXT + 1);
            System.arraycopy(from.when, 0, when, 0, LONG_TEXT);
        }
    }

    /** All that is and was told but the TAPE, fault() and what can be undone. */
    private static final class World {
        int w;
        int h;
        int wind;
        int steep;
        int odds;
        int next;
        int day;
        int draws;
        final int[] snow = new int[FIELDS];
        // What a VOW asks ahead of each FIELD.
        final int[] lifts = new int[FIELDS];
        final Folk folk = new Folk();
        final Law law = new Law();
        final Rows vows = new Rows(LONG_TEXT);
        final Rows weather = new Rows(SHORT_TEXT);
        final Rows wants = new Rows(SHORT_TEXT);
        final Rows stirs = new Rows(STIRS_MOST);
        final Rows book;

        World(int bookMost) {
            book = new Rows(bookMost);
            draws = 0;
            begin(5, 4);
        }

        /** All is as at first, but for the STATE. */
        private void begin(int ofW, int ofH) {
            w = ofW;
            h = ofH;
            wind = 1;
            steep = 60;
            odds = 0;
            next = 0;
            day = 0;
            for (int f = 0; f < FIELDS; f++) {
                snow[f] = 10;
            }
            folk.count = 0;
            law.clear();
            vows.count = 0;
            weather.count = 0;
            wants.count = 0;
            stirs.count = 0;
            book.count = 0;
        }

        void copy(World from) {
            w = from.w;
            h = from.h;
            wind = from.wind;
            steep = from.steep;
            odds = from.odds;
            next = from.next;
            day = from.day;
            draws = from.draws;
            System.arraycopy(from.snow, 0, snow, 0, FIELDS);
            folk.copy(from.folk);
            law.copy(from.law);
            vows.copy(from.vows);
            weather.copy(from.weather);
            wants.copy(from.wants);
            stirs.copy(from.stirs);
            book.copy(from.book);
        }

        /** TEXT k is that of another world: how many lines. */
        int take(int k, World from) {
            if (k == LAW) {
                law.copy(from.law);
                return law.count;
            }
            Rows rows = rowsOf(k);
            rows.copy(from.rowsOf(k));
            return rows.count;
        }

        Rows rowsOf(int k) {
            if (k == VOWS) {
                return vows;
            }
            return k == WEATHER ? weather : wants;
        }

        boolean hasField(int f) {
            return f >= 0 && f < FIELDS && (f & 7) < w && f >> 3 < h;
        }

        /** The next FIELD by a WIND; NONE off the fields. */
        int beside(int f, int toward) {
            int x = (f & 7) + (toward == 1 ? 1 : 0) - (toward == 3 ? 1 : 0);
            int y = (f >> 3) + (toward == 2 ? 1 : 0) - (toward == 0 ? 1 : 0);
            return x < 0 || x >= w || y < 0 || y >= h ? NONE : 8 * y + x;
        }

        boolean isSteep(int f) {
            return snow[f] >= steep;
        }

        int bareFields() {
            int bare = 0;
            for (int f = 0; f < FIELDS; f++) {
                if (hasField(f) && snow[f] == 0) {
                    bare++;
                }
            }
            return bare;
        }

        /** match of a for b, if their TEMPERS were these. */
        int matchBy(int a, int b, int temperOfA, int temperOfB) {
            int apart = Math.abs(temperOfA - temperOfB);
            law.forgetNames();
            law.name(TEMPER, temperOfA);
            law.name(HOPE, folk.hope[a]);
            law.name(OTHER, temperOfB);
            law.name(WISH, folk.hope[b]);
            law.name(KIN, folk.areKin(a, b) ? 1 : 0);
            law.name(APART, apart);
            law.name(DAY, day);
            return held(law.tell(MATCH, 9 - apart), TEMPER_MOST);
        }

        int matchOf(int a, int b) {
            return matchBy(a, b, folk.temper[a], folk.temper[b]);
        }

        int foundOf(int a, int b) {
            int one = folk.temper[a];
            int other = folk.temper[b];
            return Math.min(matchBy(a, b, one, other), matchBy(b, a, other, one));
        }

        /** lift of a FIELD so far from the VOW's FIELD and with so much SNOW. */
        int liftOf(int a, int b, int found, int far, int deep) {
            law.forgetNames();
            law.name(FOUND, found);
            law.name(FAR, far);
            law.name(SNOW, deep);
            law.name(KIN, folk.areKin(a, b) ? 1 : 0);
            law.name(APART, Math.abs(folk.temper[a] - folk.temper[b]));
            law.name(DAY, day);
            return held(law.tell(LIFT, found * 2 - far), SNOW_MOST);
        }

        int meltOf(int deep) {
            law.forgetNames();
            law.name(SNOW, deep);
            law.name(DAY, day);
            return held(law.tell(MELT, 0), SNOW_MOST);
        }

        int weatherOf(int ofDay) {
            int round = 0;
            for (int i = 0; i < weather.count; i++) {
                round += weather.cell(i, 0);
            }
            if (round <= 0) {
                return 0;
            }
            int left = ofDay % round;
            for (int i = 0; i < weather.count; i++) {
                left -= weather.cell(i, 0);
                if (left < 0) {
                    return weather.cell(i, 1);
                }
            }
            return 0;
        }

        void note(int what, int first, int much) {
            book.add(day, what, first, much);
        }

        /** A VOW that can be: FOUND. */
        int makeVow(int a, int b, int at) {
            int found = foundOf(a, b);
            int what = WAS_OTHER;
            int much = 0;
            if (found >= HALF) {
                for (int f = 0; f < FIELDS; f++) {
                    lifts[f] = hasField(f) ? liftOf(a, b, found, steps(at, f), snow[f]) : 0;
                }
                what = found >= RIGHT ? WAS_RIGHT : WAS_HALF;
                much = found >= RIGHT ? rise() : drift();
            }
            folk.wed[a] = b;
            folk.wed[b] = a;
            note(what, a, much);
            return found;
        }

        private int rise() {
            int all = 0;
            for (int f = 0; f < FIELDS; f++) {
                int up = Math.min(lifts[f], snow[f]);
                snow[f] -= up;
                all += up;
            }
            next += all;
            return all;
        }

        private int drift() {
            for (int f = 0; f < FIELDS; f++) {
                lifts[f] = Math.min(lifts[f] / 2, snow[f]);
            }
            int all = 0;
            for (int f = 0; f < FIELDS; f++) {
                if (lifts[f] == 0) {
                    continue;
                }
                all += lifts[f];
                snow[f] -= lifts[f];
                int to = beside(f, wind);
                if (to == NONE) {
                    next += lifts[f];
                } else {
                    snow[to] += lifts[f];
                }
            }
            for (int f = 0; f < FIELDS; f++) {
                snow[f] = Math.min(snow[f], SNOW_MOST);
            }
            return all;
        }

        /** A DAY: how many VOWS were made. */
        int passDay() {
            int fallen = weatherOf(day);
            for (int f = 0; f < FIELDS && fallen > 0; f++) {
                snow[f] = Math.min(snow[f] + fallen, SNOW_MOST);
            }
            int made = 0;
            for (int i = 0; i < vows.count; i++) {
                if (vows.cell(i, 0) != day) {
                    continue;
                }
                if (folk.canWed(vows.cell(i, 1), vows.cell(i, 2))) {
                    makeVow(vows.cell(i, 1), vows.cell(i, 2), vows.cell(i, 3));
                    made++;
                } else {
                    note(WAS_VOID, i, 0);
                }
            }
            if (odds > 0) {
                slide();
            }
            meltAll();
            day++;
            return made;
        }

        private int draw(int m) {
            draws = 1664525 * draws + 1013904223;
            return m <= 0 ? 0 : (draws >>> 8) % m;
        }

        private void slide() {
            for (int f = 0; f < FIELDS; f++) {
                if (!hasField(f) || snow[f] < steep || draw(ODDS_OF) >= odds) {
                    continue;
                }
                int down = snow[f] / 2;
                snow[f] -= down;
                int south = beside(f, 2);
                if (south != NONE) {
                    snow[south] = Math.min(snow[south] + down, SNOW_MOST);
                }
                note(WAS_AVALANCHE, f, down);
            }
        }

        private void meltAll() {
            // FIELDS side by side often have the same SNOW, and melt goes by that alone.
            int deep = NONE;
            int less = 0;
            for (int f = 0; f < FIELDS; f++) {
                if (!hasField(f)) {
                    continue;
                }
                if (snow[f] != deep) {
                    deep = snow[f];
                    less = meltOf(deep);
                }
                snow[f] = Math.max(0, snow[f] - less);
            }
        }

        /** FIRST VOID: it goes by who is WED alone, so the DAYS need not be lived through. */
        int firstVoid() {
            int busy = folk.wedSet();
            int last = vows.greatest(0);
            for (int ofDay = day; ofDay <= last; ofDay++) {
                for (int i = 0; i < vows.count; i++) {
                    if (vows.cell(i, 0) != ofDay) {
                        continue;
                    }
                    int two = 1 << vows.cell(i, 1) | 1 << vows.cell(i, 2);
                    if ((busy & two) != 0) {
                        return i;
                    }
                    busy |= two;
                }
            }
            return NONE;
        }

        boolean isBare(int f) {
            return hasField(f) && snow[f] == 0;
        }

        /** Of WANTS of a DAY, which has just ended, the first that is not met. */
        int unmetWant(int ofDay) {
            for (int i = 0; i < wants.count; i++) {
                if (wants.cell(i, 1) == ofDay && !isBare(wants.cell(i, 0))) {
                    return i;
                }
            }
            return NONE;
        }

        int worthMet(int ofDay) {
            int worth = 0;
            for (int i = 0; i < wants.count; i++) {
                if (wants.cell(i, 1) == ofDay && isBare(wants.cell(i, 0))) {
                    worth += wants.cell(i, 2);
                }
            }
            return worth;
        }

        int worthBare() {
            int worth = 0;
            for (int i = 0; i < wants.count; i++) {
                if (isBare(wants.cell(i, 0))) {
                    worth += wants.cell(i, 2);
                }
            }
            return worth;
        }

        /** WHO by a PERSON, as a set. */
        int whoCanBe(int person) {
            int set = 0;
            for (int p = 0; p < folk.count; p++) {
                if (folk.side[p] != folk.side[person] && allStirsFit(person, foundOf(person, p))) {
                    set |= 1 << p;
                }
            }
            return set;
        }

        private boolean allStirsFit(int person, int found) {
            for (int i = 0; i < stirs.count; i++) {
                if (stirs.cell(i, 0) != person) {
                    continue;
                }
                int v = stirs.cell(i, 1);
                if (stirs.cell(i, 2) == 1 ? found < v : found != v) {
                    return false;
                }
            }
            return true;
        }
    }

    /** What can be undone: how things were ahead of the latest six. */
    private static final class Past {
        private static final int REST = 4;

        final int[] snow = new int[UNDO_MOST * FIELDS];
        final int[] wed = new int[UNDO_MOST * FOLK_MOST];
        final int[] rest = new int[UNDO_MOST * REST];
        int count;
        // The slot that the next one takes; the six slots are a ring, so that the oldest gives way.
        int slot;

        void keep(World v) {
            System.arraycopy(v.snow, 0, snow, slot * FIELDS, FIELDS);
            System.arraycopy(v.folk.wed, 0, wed, slot * FOLK_MOST, FOLK_MOST);
            int from = slot * REST;
            rest[from] = v.next;
            rest[from + 1] = v.day;
            rest[from + 2] = v.draws;
            rest[from + 3] = v.book.count;
            slot = (slot + 1) % UNDO_MOST;
            count = Math.min(count + 1, UNDO_MOST);
        }

        boolean giveBack(World v) {
            if (count <= 0) {
                return false;
            }
            slot = (slot + UNDO_MOST - 1) % UNDO_MOST;
            count--;
            System.arraycopy(snow, slot * FIELDS, v.snow, 0, FIELDS);
            System.arraycopy(wed, slot * FOLK_MOST, v.folk.wed, 0, FOLK_MOST);
            int from = slot * REST;
            v.next = rest[from];
            v.day = rest[from + 1];
            v.draws = rest[from + 2];
            v.book.count = rest[from + 3];
            return true;
        }
    }

    /** The TAPE, and the TOKENS that its bytes are. */
    private static final class Tape {
        final byte[] bytes = new byte[TAPE_MOST];
        // One TOKEN more than bytes: the end.
        final int[] kinds = new int[TAPE_MOST + 1];
        final int[] values = new int[TAPE_MOST + 1];
        final int[] places = new int[TAPE_MOST + 1];
        int size;

        void put(int four) {
            for (int shift = 24; shift >= 0 && size < TAPE_MOST; shift -= 8) {
                bytes[size] = (byte) (four >> shift);
                size++;
            }
        }

        private int sign(int i) {
            return i >= 0 && i < size && i < TAPE_MOST ? bytes[i] & 255 : NONE;
        }

        private static boolean isLetter(int c) {
            return c >= 'a' && c <= 'z' || c >= 'A' && c <= 'Z';
        }

        private static boolean isDigit(int c) {
            return c >= '0' && c <= '9';
        }

        void split() {
            int n = 0;
            int to;
            for (int i = 0; i < size; i = to) {
                int c = sign(i);
                to = i + 1;
                if (c == 32 || c == 10) {
                    continue;
                }
                if (isLetter(c)) {
                    to = Math.max(to, lettersEnd(i));
                    kinds[n] = wordOf(i, to);
                } else if (isDigit(c)) {
                    to = Math.max(to, digitsEnd(i));
                    kinds[n] = to - i <= 4 ? NUMBER : NO_TOKEN;
                    values[n] = valueOf(i, to);
                } else {
                    kinds[n] = SIGNS.indexOf((char) c) >= 0 ? c : NO_TOKEN;
                }
                places[n] = i;
                n++;
            }
            kinds[n] = TEXT_END;
            places[n] = size;
        }

        private int lettersEnd(int from) {
            for (int i = from; i < size; i++) {
                if (!isLetter(sign(i))) {
                    return i;
                }
            }
            return size;
        }

        private int digitsEnd(int from) {
            for (int i = from; i < size; i++) {
                if (!isDigit(sign(i))) {
                    return i;
                }
            }
            return size;
        }

        private int valueOf(int from, int to) {
            int value = 0;
            for (int i = from; i < to; i++) {
                value = 10 * value + sign(i) - '0';
            }
            return value;
        }

        private int wordOf(int from, int to) {
            int kind = FIRST_WORD;
            int begin = 0;
            for (int i = 0; i < WORDS.length(); i++) {
                if (WORDS.charAt(i) != ' ') {
                    continue;
                }
                if (i - begin == to - from && isSame(begin, from, to - from)) {
                    return kind;
                }
                kind++;
                begin = i + 1;
            }
            return NO_TOKEN;
        }

        private boolean isSame(int begin, int from, int length) {
            for (int i = 0; i < length && begin + i < WORDS.length(); i++) {
                if (WORDS.charAt(begin + i) != sign(from + i)) {
                    return false;
                }
            }
            return true;
        }
    }

    /**
     * Reads TOKENS into a draft. Where a method answers false, the TOKEN that it stands at is the
     * place of the FAULT, which is 1 unless the method told another one.
     */
    private static final class Reader {
        int fault;
        int faultPlace;
        private final Tape tape;
        private final World told;
        private final World draft;
        private int i;
        private int kind;
        // The value of the NUMBER passed last.
        private int number;

        Reader(Tape from, World known, World into) {
            fault = 0;
            faultPlace = NONE;
            tape = from;
            told = known;
            draft = into;
        }

        /** Reads TEXT k, and all of its lines into the draft; false if there is a FAULT. */
        boolean reads(int k) {
            i = 0;
            kind = tape.kinds[0];
            fault = 0;
            faultPlace = NONE;
            draft.law.clear();
            draft.rowsOf(k).count = 0;
            for (int line = 0; line <= TAPE_MOST && kind != TEXT_END; line++) {
                boolean read = k == LAW ? lawLine() : k == VOWS ? vowLine() : k == WEATHER ? weatherLine() : wantLine();
                if (!read) {
                    fault = fault == 0 ? 1 : fault;
                    faultPlace = tape.places[i];
                    return false;
                }
            }
            return true;
        }

        private void pass() {
            if (i < TAPE_MOST) {
                i++;
            }
            kind = tape.kinds[i];
        }

        private boolean refuse(int why) {
            fault = why;
            return false;
        }

        private boolean passes(int wanted) {
            if (kind != wanted) {
                return false;
            }
            pass();
            return true;
        }

        /** The KEYWORD that begins a line; one more line than there may be is a FAULT. */
        private boolean begins(int wanted, Rows rows) {
            if (kind == wanted && rows.count >= rows.most) {
                return refuse(3);
            }
            return passes(wanted);
        }

        private boolean passesNumber(int least, int most) {
            if (kind != NUMBER) {
                return false;
            }
            number = tape.values[i];
            if (number < least || number > most) {
                return refuse(2);
            }
            pass();
            return true;
        }

        private boolean passesField() {
            if (kind == NUMBER && !told.hasField(tape.values[i])) {
                return refuse(2);
            }
            return passesNumber(0, FIELDS - 1);
        }

        /** A PERSON, not of the SIDE of another one (NONE: of any). */
        private boolean passesPerson(int other) {
            if (kind == NUMBER) {
                int p = tape.values[i];
                if (!told.folk.has(p) || told.folk.has(other) && told.folk.side[p] == told.folk.side[other]) {
                    return refuse(2);
                }
            }
            return passesNumber(0, FOLK_MOST - 1);
        }

        private boolean vowLine() {
            if (!begins(ON, draft.vows) || !passesNumber(0, TOLD_DAY_MOST)) {
                return false;
            }
            int day = number;
            if (!passesPerson(NONE)) {
                return false;
            }
            int a = number;
            if (!passes(AND) || !passesPerson(a)) {
                return false;
            }
            int b = number;
            if (!passes(AT) || !passesField()) {
                return false;
            }
            int field = number;
            return passes(';') && draft.vows.add(day, a, b, field);
        }

        private boolean weatherLine() {
            if (!begins(FOR, draft.weather) || !passesNumber(1, 60)) {
                return false;
            }
            int days = number;
            if (!passes(SNOW) || !passesNumber(0, 30)) {
                return false;
            }
            int deep = number;
            return passes(';') && draft.weather.add(days, deep, 0, 0);
        }

        private boolean wantLine() {
            if (!begins(BARE, draft.wants) || !passesField()) {
                return false;
            }
            int field = number;
            if (!passes(ON) || !passesNumber(0, TOLD_DAY_MOST)) {
                return false;
            }
            int day = number;
            if (!passes(WORTH) || !passesNumber(1, WORTH_MOST)) {
                return false;
            }
            int worth = number;
            return passes(';') && draft.wants.add(field, day, worth, 0);
        }

        private boolean lawLine() {
            Law law = draft.law;
            if (kind != MATCH && kind != LIFT && kind != MELT) {
                return false;
            }
            int line = law.count;
            if (line >= LONG_TEXT) {
                return refuse(3);
            }
            law.about[line] = kind;
            pass();
            if (!readsSum()) {
                return false;
            }
            law.when[line] = law.size;
            if (kind == WHEN) {
                pass();
                if (!readsEither(0)) {
                    return false;
                }
            }
            law.start[line + 1] = law.size;
            law.count = line + 1;
            return passes(';');
        }

        /** B: an or waits until all that stands behind it up to the next or is read. */
        private boolean readsEither(int open) {
            boolean andWaits = false;
            boolean orWaits = false;
            for (int turn = 0; turn <= TAPE_MOST; turn++) {
                if (!readsSingle(open)) {
                    return false;
                }
                if (andWaits) {
                    draft.law.put(Law.codeOfJoint(AND));
                }
                andWaits = kind == AND;
                if (!andWaits) {
                    if (orWaits) {
                        draft.law.put(Law.codeOfJoint(OR));
                    }
                    orWaits = kind == OR;
                }
                if (!andWaits && !orWaits) {
                    return true;
                }
                pass();
            }
            return false;
        }

        /** C, with so many ( and not open. */
        private boolean readsSingle(int open) {
            int first = kind;
            if (first == NOT || first == '(') {
                if (open >= OPEN_MOST) {
                    return refuse(3);
                }
                pass();
                if (first == '(') {
                    return readsEither(open + 1) && passes(')');
                }
                if (!readsSingle(open + 1)) {
                    return false;
                }
                draft.law.put(Law.NOT_CODE);
                return true;
            }
            if (!readsSum()) {
                return false;
            }
            int sign = kind;
            if (!passes('<') && !passes('=') && !passes('>') || !readsSum()) {
                return false;
            }
            draft.law.put(Law.codeOfJoint(sign));
            return true;
        }

        /** E: a * or / waits until the U behind it is read, a + or - until the T is. */
        private boolean readsSum() {
            int times = 0;
            int plus = 0;
            for (int turn = 0; turn <= TAPE_MOST; turn++) {
                if (times == '/' && kind == NUMBER && tape.values[i] == 0) {
                    return refuse(2);
                }
                if (times == '/' && kind != NUMBER || !readsUnit()) {
                    return false;
                }
                if (times != 0) {
                    draft.law.put(Law.codeOfJoint(times));
                }
                times = kind == '*' || kind == '/' ? kind : 0;
                if (times == 0) {
                    if (plus != 0) {
                        draft.law.put(Law.codeOfJoint(plus));
                    }
                    plus = kind == '+' || kind == '-' ? kind : 0;
                }
                if (times == 0 && plus == 0) {
                    return true;
                }
                pass();
            }
            return false;
        }

        private boolean readsUnit() {
            if (kind == NUMBER) {
                draft.law.put(tape.values[i]);
            } else if (kind >= TEMPER && kind <= DAY) {
                draft.law.put(Law.codeOfName(kind));
            } else {
                return false;
            }
            pass();
            return true;
        }
    }

    /** In thought: who has whom, and which couple would do what. */
    private static final class Couples {
        private static final int FOUNDS = 10;

        // Whom a PERSON has, by the latest settle or pair.
        final int[] has = new int[FOLK_MOST];
        private final int[] asked = new int[FOLK_MOST];
        // At 12 a + b: match of a for b, or FOUND of both.
        private final int[] fits = new int[FOLK_MOST * FOLK_MOST];
        private final int[] left = new int[FOLK_MOST];
        private final int[] right = new int[FOLK_MOST];
        private int lefts;
        private int rights;
        // At i << rights | set: the greatest sum by those of left from i on, while a set of right is taken.
        private final int[] sums = new int[1 << FOLK_MOST];
        private final int[] byFar = new int[FAR_MOST + 1];
        private final int[] tally = new int[FOUNDS];

        /** All who are not WED by their SIDES; nobody has anybody. */
        private void gather(Folk folk) {
            lefts = 0;
            rights = 0;
            for (int p = 0; p < folk.count; p++) {
                has[p] = NONE;
                asked[p] = 0;
                if (!folk.isFree(p)) {
                    continue;
                }
                if (folk.side[p] == 0) {
                    left[lefts] = p;
                    lefts++;
                } else {
                    right[rights] = p;
                    rights++;
                }
            }
        }

        /** STABLE. */
        void settle(World v) {
            gather(v.folk);
            for (int i = 0; i < lefts; i++) {
                for (int j = 0; j < rights; j++) {
                    fits[FOLK_MOST * left[i] + right[j]] = v.matchOf(left[i], right[j]);
                    fits[FOLK_MOST * right[j] + left[i]] = v.matchOf(right[j], left[i]);
                }
            }
            boolean goesOn = true;
            // Nobody asks one twice, so there are fewer turns than this.
            for (int turn = 0; turn <= FOLK_MOST * FOLK_MOST && goesOn; turn++) {
                goesOn = false;
                for (int i = 0; i < lefts; i++) {
                    goesOn |= has[left[i]] == NONE && asksNext(left[i]);
                }
            }
        }

        /** One asks the next one; false if there is none left to ask. */
        private boolean asksNext(int a) {
            int b = NONE;
            int most = 0;
            for (int j = 0; j < rights; j++) {
                int fit = fits[FOLK_MOST * a + right[j]];
                if ((asked[a] >> right[j] & 1) == 0 && fit > most) {
                    b = right[j];
                    most = fit;
                }
            }
            if (b == NONE) {
                return false;
            }
            asked[a] |= 1 << b;
            int own = fits[FOLK_MOST * b + a];
            int now = has[b];
            int kept = now == NONE ? 0 : fits[FOLK_MOST * b + now];
            if (own > kept || own == kept && a < now) {
                if (now != NONE) {
                    has[now] = NONE;
                }
                has[b] = a;
                has[a] = b;
            }
            return true;
        }

        /** BEST: the sum. */
        int pair(World v) {
            gather(v.folk);
            for (int i = 0; i < lefts; i++) {
                for (int j = 0; j < rights; j++) {
                    fits[FOLK_MOST * left[i] + right[j]] = v.foundOf(left[i], right[j]);
                }
            }
            int sets = 1 << rights;
            for (int set = 0; set < sets; set++) {
                sums[lefts << rights | set] = 0;
            }
            for (int i = lefts - 1; i >= 0; i--) {
                for (int set = 0; set < sets; set++) {
                    // Those ahead of i can't have taken more than they are.
                    if (Integer.bitCount(set) <= i) {
                        sums[i << rights | set] = greatestSum(i, set);
                    }
                }
            }
            takeFirstWay();
            return sums[0];
        }

        private int greatestSum(int i, int set) {
            int most = sums[i + 1 << rights | set];
            for (int j = 0; j < rights; j++) {
                if ((set >> j & 1) == 0) {
                    most = Math.max(most, sumWith(i, j, set));
                }
            }
            return most;
        }

        private int sumWith(int i, int j, int set) {
            return fits[FOLK_MOST * left[i] + right[j]] + sums[i + 1 << rights | set | 1 << j];
        }

        private void takeFirstWay() {
            int set = 0;
            for (int i = 0; i < lefts; i++) {
                int due = sums[i << rights | set];
                for (int j = 0; j < rights; j++) {
                    if ((set >> j & 1) == 0 && sumWith(i, j, set) == due) {
                        has[left[i]] = right[j];
                        has[right[j]] = left[i];
                        set |= 1 << j;
                        break;
                    }
                }
            }
        }

        /** BARES: the first way as (12 a + b) * 56 + the VOW's FIELD; NONE if there is none. */
        int baring(World v, int field) {
            gather(v.folk);
            for (int i = 0; i < lefts; i++) {
                for (int j = 0; j < rights; j++) {
                    int found = v.foundOf(left[i], right[j]);
                    int from = found < RIGHT ? NONE : firstBaring(v, left[i], right[j], found, field);
                    if (from != NONE) {
                        return (FOLK_MOST * left[i] + right[j]) * FIELDS + from;
                    }
                }
            }
            return NONE;
        }

        private int firstBaring(World v, int a, int b, int found, int field) {
            // Of one FIELD by one couple lift goes by how far it is alone.
            for (int far = 0; far <= FAR_MOST; far++) {
                byFar[far] = NONE;
            }
            for (int f = 0; f < FIELDS; f++) {
                int far = steps(f, field);
                if (!v.hasField(f) || far > FAR_MOST) {
                    continue;
                }
                if (byFar[far] == NONE) {
                    byFar[far] = v.liftOf(a, b, found, far, v.snow[field]);
                }
                if (byFar[far] >= v.snow[field]) {
                    return f;
                }
            }
            return NONE;
        }

        /** ASK: whom to let pass those of a set. */
        int nextToPass(World v, int person, int set) {
            int next = NONE;
            int least = FOLK_MOST + 1;
            for (int p = 0; p < v.folk.count; p++) {
                if (p == person || v.folk.side[p] != v.folk.side[person]) {
                    continue;
                }
                int most = mostAlike(v, p, set);
                if (most < least) {
                    next = p;
                    least = most;
                }
            }
            return next;
        }

        private int mostAlike(World v, int p, int set) {
            for (int found = 0; found < FOUNDS; found++) {
                tally[found] = 0;
            }
            int most = 0;
            for (int q = 0; q < v.folk.count; q++) {
                if ((set >> q & 1) == 1) {
                    int found = held(v.foundOf(p, q), FOUNDS - 1);
                    tally[found]++;
                    most = Math.max(most, tally[found]);
                }
            }
            return most;
        }
    }

    /** In thought: ways over FIELDS that are not STEEP. */
    private static final class Ways {
        private final int[] queue = new int[2 * FIELDS];
        private final int[] dist = new int[FIELDS];
        // For CUT a FIELD f has two doors, 2 f in and 2 f + 1 out: by which door one came to a door.
        private final int[] cameBy = new int[2 * FIELDS];
        // Ways found so far that share no FIELD: whether one goes through f, and at 4 f + d from f by d.
        private final boolean[] through = new boolean[FIELDS];
        private final boolean[] goes = new boolean[4 * FIELDS];
        private int queued;

        /** SAFE. */
        int fewestSteps(World v, int a, int b) {
            if (v.isSteep(a) || v.isSteep(b)) {
                return NONE;
            }
            for (int f = 0; f < FIELDS; f++) {
                dist[f] = NONE;
            }
            dist[a] = 0;
            queue[0] = a;
            queued = 1;
            for (int head = 0; head < queued && dist[b] == NONE; head++) {
                int f = queue[head];
                for (int d = 0; d < 4; d++) {
                    int g = v.beside(f, d);
                    if (g != NONE && dist[g] == NONE && !v.isSteep(g)) {
                        dist[g] = dist[f] + 1;
                        queue[queued] = g;
                        queued++;
                    }
                }
            }
            return dist[b];
        }

        /** CUT: as few FIELDS cut a from b as ways there are at once that share none. */
        int fewestToCut(World v, int a, int b) {
            for (int f = 0; f < FIELDS; f++) {
                through[f] = false;
                for (int d = 0; d < 4; d++) {
                    goes[4 * f + d] = false;
                }
            }
            for (int found = 0; found < 4; found++) {
                if (!search(v, a, b)) {
                    return found;
                }
                addWay(a, b);
            }
            // A FIELD has four sides at most.
            return 4;
        }

        /** Looks for one way more, by which those found so far may be led anew. */
        private boolean search(World v, int a, int b) {
            for (int door = 0; door < 2 * FIELDS; door++) {
                cameBy[door] = NONE;
            }
            int start = 2 * a + 1;
            cameBy[start] = start;
            // Nobody comes in to the start again.
            cameBy[2 * a] = start;
            queue[0] = start;
            queued = 1;
            for (int head = 0; head < queued && cameBy[2 * b] == NONE; head++) {
                int door = queue[head];
                int f = door >> 1;
                boolean out = (door & 1) == 1;
                if (out == through[f]) {
                    reach(door ^ 1, door);
                }
                for (int d = 0; d < 4; d++) {
                    int g = v.beside(f, d);
                    if (g == NONE || v.isSteep(g)) {
                        continue;
                    }
                    if (out && !goes[4 * f + d]) {
                        reach(2 * g, door);
                    }
                    if (!out && goes[4 * g + (d + 2) % 4]) {
                        reach(2 * g + 1, door);
                    }
                }
            }
            return cameBy[2 * b] != NONE;
        }

        private void reach(int door, int from) {
            if (cameBy[door] == NONE && queued < queue.length) {
                cameBy[door] = from;
                queue[queued] = door;
                queued++;
            }
        }

        private void addWay(int a, int b) {
            int door = 2 * b;
            for (int step = 0; step < 2 * FIELDS && door != 2 * a + 1; step++) {
                int from = cameBy[door];
                if (from < 0) {
                    return;
                }
                int f = from >> 1;
                int g = door >> 1;
                boolean in = (door & 1) == 0;
                if (f == g) {
                    through[f] = !in;
                } else if (in) {
                    goes[4 * f + direction(f, g)] = true;
                } else {
                    goes[4 * g + direction(g, f)] = false;
                }
                door = from;
            }
        }

        /** By which WIND one comes from a FIELD to one beside it. */
        private static int direction(int f, int g) {
            if (g == f - 8) {
                return 0;
            }
            if (g == f + 1) {
                return 1;
            }
            return g == f + 8 ? 2 : 3;
        }
    }

    /** ROUNDS. */
    private static final class Rounds {
        // Of lines that count: which line, its FIELD, its day.
        private final int[] lines = new int[LONG_TEXT];
        private final int[] fields = new int[LONG_TEXT];
        private final int[] given = new int[LONG_TEXT];
        private int count;
        int days;

        void make(World v) {
            count = 0;
            int busy = v.folk.wedSet();
            for (int i = 0; i < v.vows.count && i < LONG_TEXT; i++) {
                int two = 1 << v.vows.cell(i, 1) | 1 << v.vows.cell(i, 2);
                if ((busy & two) == 0) {
                    busy |= two;
                    lines[count] = i;
                    fields[count] = v.vows.cell(i, 3);
                    count++;
                }
            }
            boolean fit = false;
            // With as many days as lines there is a way.
            for (int most = 0; most <= count && !fit; most++) {
                days = most;
                fit = fits(this, 0);
            }
        }

        /** The first way to give days from line i on; i stays low, as nobody is in two lines that count. */
        private static boolean fits(Rounds plan, int i) {
            if (i >= plan.count) {
                return true;
            }
            for (int day = 0; day < plan.days; day++) {
                if (plan.isOpen(i, day)) {
                    plan.given[i] = day;
                    if (fits(plan, i + 1)) {
                        return true;
                    }
                }
            }
            return false;
        }

        private boolean isOpen(int i, int day) {
            for (int j = 0; j < i; j++) {
                if (given[j] == day && steps(fields[i], fields[j]) <= 2) {
                    return false;
                }
            }
            return true;
        }

        int dayOf(int line) {
            for (int i = 0; i < count; i++) {
                if (lines[i] == line) {
                    return given[i];
                }
            }
            return NONE;
        }
    }
}
