/**
 * People with hates for one another, who dies, who throws the handful, and what can be asked of that.
 * Every row is made once, in the constructor: the calls themselves make nothing.
 */
public final class NoGraveEnemy {
    public static final int NONE = -1, BAD = -2, STATE = -3, FULL = -4;
    public static final long NO = Long.MIN_VALUE;

    private static final int NOTHING = -11, CAST = -12, PLACE = -13, SIZE = -14;
    private static final int NO_SUCH = -5;
    private static final int WIDE_NONE = -10001, WIDE_BAD = -10002;
    private static final int FAULT_BASE = -10;
    private static final int JUDGED_SHORT = 100;

    private static final int MOST_PEOPLE = 6, MOST_HATE = 99, MOST_V = 9, MOST_ROW = 9, PARTS = 4;
    private static final int MOST_DAY = 9999, MOST_THROWN = 9999, MOST_PASS = 60, MOST_ASKED = 30, MOST_SEEN_DAYS = 20;
    /** More than THROWN can come to in what is asked, where it goes beyond 9999. */
    private static final int BEYOND = 1000000;
    private static final int MOST_TEXT = 100, MOST_SIGN = 127, MOST_PARISHES = 6, MOST_CLAUSES = 10, MOST_NESTED = 4;
    private static final int NEED_WITHOUT = 30;
    private static final int MOST_SEEN = 5, MOST_PLAN = 10, MOST_BOOK = 8, MOST_ROWS = 10, COLUMNS = 4;
    private static final int TAPES = 6, MOST_ITEMS = 60, MOST_TRACE = 20, MOST_CALLS = 20;
    private static final int SETS = 1 << MOST_PEOPLE;

    private static final int ONE = 0, MILD = 1, SISTER = 2, STERN = 3, FRIEND = 4, HIRED = 5, TOLD = 6, KINDS = 7;
    private static final int[] ABOVE = {-1, ONE, ONE, ONE, MILD, SISTER, STERN};

    private static final int DIGS = 0, CASTS = 1, TELLS = 2, ACTS = 3;
    /** The body of each KIND for digs, casts, tells; 0 where it has none of its own. */
    private static final int[] BODIES = {
        10, 11, 12,
        0, 20, 0,
        30, 0, 0,
        0, 0, 40,
        50, 51, 0,
        0, 0, 60,
        71, 70, 0
    };

    private static final int GOES_DAY = 0, GOES_DEAD = 1, GOES_OWN_HATES = 2, GOES_HATES_FOR = 3;
    private static final int EMPTY = -1, BYTES = 0, SHORTS = 1, INTS = 2, BOOLEANS = 4;

    private static final String LETTERS = "pqkvhd";
    private static final String COMPARES = "<=>";
    private static final int NOT = -1, AND = -2, OR = -3, ADD = -4;

    private final Village now = new Village();
    private final Village kept = new Village();
    private final Village asked = new Village();
    private boolean isKept;
    private final Text text = new Text();
    private final Parish[] parishes = new Parish[MOST_PARISHES];
    private int parishCount;
    private final Choices choices = new Choices();
    private final Acts acts = new Acts();
    private final Tape[] tapes = new Tape[TAPES];

    public NoGraveEnemy() {
        for (int n = 0; n < MOST_PARISHES; n++) {
            parishes[n] = new Parish();
        }
        for (int n = 0; n < TAPES; n++) {
            tapes[n] = new Tape();
        }
    }

    // ---- people, parishes

    public int one(int kind, int v) {
        if (kind < 0 || kind >= KINDS) {
            return NONE;
        }
        if (v < 0 || v > MOST_V) {
            return BAD;
        }
        return now.come(kind, v);
    }

    public int of(int person, int what) {
        if (!now.has(person)) {
            return NONE;
        }
        switch (what) {
            case 0:
                return now.kinds[person];
            case 1:
                return now.vs[person];
            case 2:
                return bit(now.dead, person);
            case 3:
                return bit(now.buried, person);
            case 4:
                return now.thrown[person];
            case 5:
                return now.enemiesOf(person, now.day);
            case 6:
                return lies(person);
            default:
                return NONE;
        }
    }

    public int hate(int one, int other, int n) {
        if (!now.has(one) || !now.has(other)) {
            return NONE;
        }
        if (one == other || n < 0 || n > MOST_HATE) {
            return BAD;
        }
        int was = now.hateOf(one, other);
        now.setHate(one, other, n);
        return was;
    }

    public int between(int one, int other, int what) {
        if (!now.has(one) || !now.has(other) || what < 0 || what > 3) {
            return WIDE_NONE;
        }
        if (one == other) {
            return WIDE_BAD;
        }
        switch (what) {
            case 0:
                return now.hateOf(one, other);
            case 1:
                return now.spite(one, other, now.day, now.hateOf(one, other), now.vs[one]);
            case 2:
                return now.isEnemy(one, other, now.day) ? 1 : 0;
            default:
                return forHowLong(one, other);
        }
    }

    public int die(int person, boolean is) {
        if (!now.has(person)) {
            return NONE;
        }
        int was = bit(now.dead, person);
        if (is) {
            now.dead |= 1 << person;
        } else {
            now.dead &= ~(1 << person);
            now.buried &= ~(1 << person);
        }
        return was;
    }

    public int row(int person, int part, int n) {
        if (!now.has(person) || part < 0 || part >= PARTS) {
            return NONE;
        }
        if (n < 0 || n > MOST_ROW) {
            return BAD;
        }
        if (now.kinds[person] != TOLD) {
            return STATE;
        }
        int was = now.rows[person * PARTS + part];
        now.rows[person * PARTS + part] = n;
        return was;
    }

    public int feed(int sign) {
        if (sign < 0 || sign > MOST_SIGN) {
            return BAD;
        }
        return text.add((char) sign) ? text.length : FULL;
    }

    public int parish() {
        if (parishCount >= MOST_PARISHES) {
            return FULL;
        }
        Parish next = parishes[parishCount];
        boolean isGood = text.parse(next);
        int fault = text.at;
        text.length = 0;
        if (!isGood) {
            return FAULT_BASE - fault;
        }
        now.holding = next;
        parishCount++;
        return parishCount - 1;
    }

    public int told(int what) {
        switch (what) {
            case 0:
                return now.day;
            case 1:
                return now.holding.need;
            case 2:
                return now.dead;
            case 3:
                return now.buried;
            case 4:
                return now.allHate();
            case 5:
                return choices.lonely(now);
            case 6:
                return choices.keep(now);
            case 7:
                return choices.longest(now);
            default:
                return NONE;
        }
    }

    // ---- days

    public int pass(int n) {
        if (n < 0 || n > MOST_PASS) {
            return BAD;
        }
        if (now.day + n > MOST_DAY) {
            return STATE;
        }
        for (int days = 0; days < n; days++) {
            now.goDay(MOST_THROWN);
        }
        return now.day;
    }

    public int on(int n, int what) {
        int thrower = what - 10;
        int one = (what - 20) / MOST_PEOPLE;
        int other = (what - 20) % MOST_PEOPLE;
        boolean isThrown = what < 20 && now.has(thrower);
        boolean isHate = what >= 20 && now.has(one) && now.has(other);
        if (what != 0 && !isThrown && !isHate) {
            return NONE;
        }
        if (n < 0 || n > MOST_ASKED) {
            return BAD;
        }
        asked.copyFrom(now);
        for (int days = 0; days < n; days++) {
            asked.goDay(BEYOND);
        }
        if (isThrown) {
            return asked.thrown[thrower];
        }
        return isHate ? asked.hateOf(one, other) : asked.buried;
    }

    public int handful(int what) {
        int person = what - 10;
        if (what != 0 && !now.has(person)) {
            return NONE;
        }
        int most = choices.findThrowers(now);
        return what == 0 ? most : choices.throwers[person];
    }

    public int orders(int n) {
        if (n < 0 || n > MOST_PEOPLE) {
            return BAD;
        }
        return choices.rowsOf(now, n);
    }

    // ---- seen, odds

    public int see(int one, int other, int n, boolean does) {
        if (one == -1) {
            return now.seen.clear();
        }
        if (!now.has(one) || !now.has(other)) {
            return NONE;
        }
        if (one == other || n < 0 || n > MOST_SEEN_DAYS) {
            return BAD;
        }
        return now.seen.add(one, other, n, does ? 1 : 0);
    }

    public int hates(int one, int other, int what) {
        if (!now.has(one) || !now.has(other) || what < 0 || what > 1) {
            return NONE;
        }
        if (one == other) {
            return BAD;
        }
        int many = 0;
        int least = NO_SUCH;
        for (int hate = 0; hate <= MOST_HATE; hate++) {
            if (now.fitsHate(one, other, hate)) {
                least = many == 0 ? hate : least;
                many++;
            }
        }
        return what == 0 ? many : least;
    }

    public int can(int person, int what) {
        if (!now.has(person) || what < 0 || what > 1) {
            return NONE;
        }
        int many = 0;
        int least = NO_SUCH;
        for (int v = 0; v <= MOST_V; v++) {
            if (now.fitsV(person, v)) {
                least = many == 0 ? v : least;
                many++;
            }
        }
        return what == 0 ? many : least;
    }

    public long odds(int person, int part) {
        if (!now.has(person) || now.people < 2) {
            return NO;
        }
        int enemies = now.enemiesOf(person, now.day);
        int good = 0;
        for (int p = 0; p < now.people; p++) {
            if (p != person && (enemies & ~(1 << p)) != 0) {
                good++;
            }
        }
        return fraction(good, now.people - 1, part);
    }

    public long mean(int part) {
        return fraction(now.allHate(), now.people, part);
    }

    // ---- plans, books

    public int plan(int what, int person) {
        if (what == -1) {
            return now.plan.clear();
        }
        if (what < GOES_DAY || what > GOES_HATES_FOR || what != GOES_DAY && !now.has(person)) {
            return NONE;
        }
        return now.plan.add(what, person, 0, 0);
    }

    public int ends(int what) {
        if (what < 0 || what > 1) {
            return NONE;
        }
        asked.copyFrom(now);
        for (int n = 0; n < now.plan.size; n++) {
            int goes = now.plan.cell(n, 0);
            if (goes == GOES_DAY) {
                asked.goDay(BEYOND);
            } else {
                asked.suffer(goes, now.plan.cell(n, 1));
            }
        }
        return what == 0 ? asked.buried : asked.allHate();
    }

    public int book(int one, int other, int hate) {
        if (one == -1) {
            return now.book.clear();
        }
        if (!now.has(one) || !now.has(other)) {
            return NONE;
        }
        if (one == other || hate < 0 || hate > MOST_HATE) {
            return BAD;
        }
        return now.book.add(one, other, hate, 0);
    }

    public int looked() {
        for (int n = 0; n < now.book.size; n++) {
            if (now.hateOf(now.book.cell(n, 0), now.book.cell(n, 1)) != now.book.cell(n, 2)) {
                return n;
            }
        }
        return NO_SUCH;
    }

    // ---- judging, the image, acts, tapes

    public int judge(int tape, int i) {
        if (!isTape(tape)) {
            return NONE;
        }
        Tape told = tapes[tape];
        if (told.sort != BOOLEANS && told.sort != EMPTY) {
            return CAST;
        }
        if (now.people == 0) {
            return NO_SUCH;
        }
        if (!told.has(i)) {
            return JUDGED_SHORT;
        }
        for (int p = 0; p < now.people; p++) {
            if (!told.has(i + p)) {
                return JUDGED_SHORT + p;
            }
            if (told.items[i + p] != bit(now.dead, p)) {
                return p;
            }
        }
        return NO_SUCH;
    }

    public int image() {
        kept.copyFrom(now);
        isKept = true;
        return now.people;
    }

    public int undo() {
        if (!isKept) {
            return STATE;
        }
        now.copyFrom(kept);
        return now.people;
    }

    public int act(int person, int act, int x) {
        acts.ran = 0;
        if (!now.has(person) || act < 0 || act >= ACTS) {
            return 0;
        }
        acts.number = person;
        acts.kind = now.kinds[person];
        acts.v = now.vs[person];
        return Acts.run(acts, act, acts.kind, x, 0);
    }

    public int trace(int i) {
        if (i < 0 || i >= acts.ran || i >= MOST_TRACE) {
            return NONE;
        }
        return acts.bodies[i];
    }

    public int taken(int person, int k) {
        if (k < 0 || k >= KINDS) {
            return BAD;
        }
        if (!now.has(person)) {
            return NOTHING;
        }
        int kind = now.kinds[person];
        int above = kind;
        for (int n = 0; n < KINDS && above >= 0 && above < KINDS; n++) {
            if (above == k) {
                return kind;
            }
            above = ABOVE[above];
        }
        return CAST;
    }

    public int count(int what) {
        switch (what) {
            case 0:
                return now.people;
            case 1:
                return parishCount;
            case 2:
                return now.seen.size;
            case 3:
                return now.plan.size;
            case 4:
                return now.book.size;
            case 5:
                return text.length;
            case 6:
                return acts.ran;
            default:
                return BAD;
        }
    }

    public int tape(int tape, int sort, int n) {
        if (!isTape(tape)) {
            return NONE;
        }
        if (sort == EMPTY) {
            tapes[tape].become(EMPTY, 0);
            return 1;
        }
        if (sort < BYTES || sort > BOOLEANS || n > MOST_ITEMS) {
            return BAD;
        }
        if (n < 0) {
            return SIZE;
        }
        tapes[tape].become(sort, n);
        return 1;
    }

    public int item(int tape, int i, long v) {
        if (!isTape(tape)) {
            return NONE;
        }
        if (tapes[tape].sort == EMPTY) {
            return NOTHING;
        }
        if (!tapes[tape].has(i)) {
            return PLACE;
        }
        tapes[tape].items[i] = tapes[tape].cut(v);
        return 1;
    }

    public long read(int tape, int i) {
        if (!isTape(tape) || !tapes[tape].has(i)) {
            return NO;
        }
        return tapes[tape].items[i];
    }

    public int shift(int tape, int i, int other, int j, int n) {
        if (!isTape(tape) || !isTape(other)) {
            return NONE;
        }
        Tape from = tapes[tape];
        Tape to = tapes[other];
        if (from.sort == EMPTY || to.sort == EMPTY) {
            return NOTHING;
        }
        if (from.sort != to.sort) {
            return CAST;
        }
        if (!from.hasPart(i, n) || !to.hasPart(j, n)) {
            return PLACE;
        }
        System.arraycopy(from.items, i, to.items, j, n);
        return n;
    }

    private static boolean isTape(int tape) {
        return tape >= 0 && tape < TAPES;
    }

    private static int bit(int bits, int person) {
        return bits >> person & 1;
    }

    /** The first by number whose bit is set; NONE if nobody's is. */
    private static int firstOf(int bits) {
        for (int person = 0; person < MOST_PEOPLE; person++) {
            if (bit(bits, person) == 1) {
                return person;
            }
        }
        return NONE;
    }

    private int lies(int person) {
        if (bit(now.dead, person) == 0) {
            return NO_SUCH;
        }
        asked.copyFrom(now);
        for (int days = 0; days <= MOST_ASKED; days++) {
            if (bit(asked.buried, person) == 1) {
                return days;
            }
            asked.goDay(BEYOND);
        }
        return NO_SUCH;
    }

    private int forHowLong(int one, int other) {
        int days = 0;
        while (days < MOST_ASKED && now.isEnemy(one, other, now.day + days)) {
            days++;
        }
        return days;
    }

    private static long fraction(int above, int below, int part) {
        if (below <= 0 || part < 0 || part > 1) {
            return NO;
        }
        int common = common(above, below);
        if (common <= 0) {
            return NO;
        }
        return part == 0 ? above / common : below / common;
    }

    /** The greatest common divisor; the bound is far above what Euclid needs for any two numbers. */
    private static int common(int a, int b) {
        int greater = a;
        int less = b;
        for (int n = 0; n < 100 && less != 0; n++) {
            int rest = greater % less;
            greater = less;
            less = rest;
        }
        return greater;
    }

    /** All that THE IMAGE keeps; a second and a third one serve THE IMAGE and what is asked. */
    private static final class Village {
        private int people;
        private int day;
        private int dead;
        private int buried;
        // An empty parish stands for none: it has no CLAUSES, and the NEED that is due without one.
        private Parish holding = new Parish();
        private final int[] kinds = new int[MOST_PEOPLE];
        private final int[] vs = new int[MOST_PEOPLE];
        private final int[] thrown = new int[MOST_PEOPLE];
        private final int[] hates = new int[MOST_PEOPLE * MOST_PEOPLE];
        private final int[] rows = new int[MOST_PEOPLE * PARTS];
        private final Table seen = new Table(MOST_SEEN);
        private final Table plan = new Table(MOST_PLAN);
        private final Table book = new Table(MOST_BOOK);
        private final int[] facts = new int[6];

        boolean has(int person) {
            return person >= 0 && person < people;
        }

        /** What lies beyond the last one is 0 everywhere, so a new one needs no more than this. */
        int come(int kind, int v) {
            if (people >= MOST_PEOPLE) {
                return FULL;
            }
            kinds[people] = kind;
            vs[people] = v;
            people++;
            return people - 1;
        }

        int hateOf(int one, int other) {
            return has(one) && has(other) ? hates[one * MOST_PEOPLE + other] : 0;
        }

        void setHate(int one, int other, int n) {
            if (has(one) && has(other)) {
                hates[one * MOST_PEOPLE + other] = n;
            }
        }

        int allHate() {
            int sum = 0;
            for (int n = 0; n < MOST_PEOPLE * MOST_PEOPLE; n++) {
                sum += hates[n];
            }
            return sum;
        }

        int alive() {
            return (1 << people) - 1 & ~dead;
        }

        /** HATE and v are told apart from the village, since HATES and CAN ask for others than it has. */
        int spite(int one, int other, int on, int hate, int v) {
            if (!has(one)) {
                return 0;
            }
            int kind = kinds[one];
            // in the order of LETTERS
            facts[0] = one;
            facts[1] = other;
            facts[2] = kind;
            facts[3] = v;
            facts[4] = hate / 10;
            facts[5] = on % 10;
            int sum = hate + holding.weigh(facts);
            int half = on % 2 == 0 ? sum : sum / 2;
            switch (kind) {
                case MILD:
                    return sum - on % 7;
                case SISTER:
                    return half;
                case STERN:
                    return sum + v;
                case FRIEND:
                    return sum - on % 7 - 2 * v;
                case HIRED:
                    return other > one ? half + 20 : half;
                case TOLD:
                    return sum + v + rows[one * PARTS + Math.floorMod(on, PARTS)];
                default:
                    return sum;
            }
        }

        boolean isEnemy(int one, int other, int on) {
            if (!has(one) || one == other || bit(dead, one) == 1) {
                return false;
            }
            return spite(one, other, on, hateOf(one, other), vs[one]) >= holding.need;
        }

        int enemiesOf(int other, int on) {
            int enemies = 0;
            for (int one = 0; one < people; one++) {
                if (isEnemy(one, other, on)) {
                    enemies |= 1 << one;
                }
            }
            return enemies;
        }

        /** The bound is told, since THROWN ends at 9999 in what passes, and goes beyond in what is asked. */
        void goDay(int mostThrown) {
            int threw = 0;
            for (int person = 0; person < people; person++) {
                if (bit(dead & ~buried, person) == 0) {
                    continue;
                }
                int thrower = firstOf(enemiesOf(person, day) & ~threw);
                if (has(thrower)) {
                    threw |= 1 << thrower;
                    buried |= 1 << person;
                    thrown[thrower] = Math.min(thrown[thrower] + 1, mostThrown);
                    setHate(thrower, person, 0);
                }
            }
            day++;
        }

        /** A row of a PLAN that is no DAY. */
        void suffer(int goes, int person) {
            if (goes == GOES_DEAD) {
                dead |= 1 << person;
                return;
            }
            for (int other = 0; other < people; other++) {
                if (goes == GOES_OWN_HATES) {
                    setHate(person, other, 0);
                } else if (goes == GOES_HATES_FOR) {
                    setHate(other, person, 0);
                }
            }
        }

        boolean fitsHate(int one, int other, int hate) {
            if (!has(one)) {
                return false;
            }
            for (int n = 0; n < seen.size; n++) {
                if (seen.cell(n, 0) == one && seen.cell(n, 1) == other) {
                    int spite = spite(one, other, day + seen.cell(n, 2), hate, vs[one]);
                    if (spite >= holding.need != (seen.cell(n, 3) == 1)) {
                        return false;
                    }
                }
            }
            return true;
        }

        boolean fitsV(int one, int v) {
            for (int n = 0; n < seen.size; n++) {
                if (seen.cell(n, 0) == one) {
                    int other = seen.cell(n, 1);
                    int spite = spite(one, other, day + seen.cell(n, 2), hateOf(one, other), v);
                    if (spite >= holding.need != (seen.cell(n, 3) == 1)) {
                        return false;
                    }
                }
            }
            return true;
        }

        void copyFrom(Village other) {
            people = other.people;
            day = other.day;
            dead = other.dead;
            buried = other.buried;
            holding = other.holding;
            System.arraycopy(other.kinds, 0, kinds, 0, MOST_PEOPLE);
            System.arraycopy(other.vs, 0, vs, 0, MOST_PEOPLE);
            System.arraycopy(other.thrown, 0, thrown, 0, MOST_PEOPLE);
            System.arraycopy(other.hates, 0, hates, 0, MOST_PEOPLE * MOST_PEOPLE);
            System.arraycopy(other.rows, 0, rows, 0, MOST_PEOPLE * PARTS);
            seen.copyFrom(other.seen);
            plan.copyFrom(other.plan);
            book.copyFrom(other.book);
        }
    }

    /** Rows told by hand: SEEN, the PLAN, the BOOK. */
    private static final class Table {
        private final int[] cells = new int[MOST_ROWS * COLUMNS];
        private final int limit;
        private int size;

        Table(int limit) {
            this.limit = Math.min(limit, MOST_ROWS);
        }

        int add(int a, int b, int c, int d) {
            if (size >= limit) {
                return FULL;
            }
            int at = size * COLUMNS;
            cells[at] = a;
            cells[at + 1] = b;
            cells[at + 2] = c;
            cells[at + 3] = d;
            size++;
            return size;
        }

        int clear() {
            size = 0;
            return 0;
        }

        int cell(int n, int column) {
            if (n < 0 || n >= size || column < 0 || column >= COLUMNS) {
                return 0;
            }
            return cells[n * COLUMNS + column];
        }

        void copyFrom(Table other) {
            size = other.size;
            System.arraycopy(other.cells, 0, cells, 0, MOST_ROWS * COLUMNS);
        }
    }

    /**
     * The stings and balms as one row of steps, each E behind its parts: a TEST puts a bit on a stack, NOT, AND
     * and OR work on it, ADD ends an E. The steps are fewer than the bytes they were read from.
     */
    private static final class Parish {
        private final int[] steps = new int[MOST_TEXT];
        private final int[] numbers = new int[MOST_TEXT];
        private int length;
        private int need = NEED_WITHOUT;

        void startOver() {
            length = 0;
            need = NEED_WITHOUT;
        }

        void put(int step, int number) {
            if (length < MOST_TEXT) {
                steps[length] = step;
                numbers[length] = number;
                length++;
            }
        }

        /** The stack is the bits of one int: 4 others around a TEST keep it under a dozen. */
        int weigh(int[] facts) {
            int sum = 0;
            int stack = 0;
            for (int at = 0; at < length; at++) {
                int step = steps[at];
                int top = stack & 1;
                if (step == NOT) {
                    stack ^= 1;
                } else if (step == AND) {
                    stack = top == 1 ? stack >> 1 : stack >> 1 & ~1;
                } else if (step == OR) {
                    stack = stack >> 1 | top;
                } else if (step == ADD) {
                    sum += top * numbers[at];
                    stack = stack >> 1;
                } else if (step >= 0 && step / 3 < facts.length) {
                    int fact = facts[step / 3];
                    int compared = fact < numbers[at] ? 0 : fact == numbers[at] ? 1 : 2;
                    stack = stack << 1 | (compared == step % 3 ? 1 : 0);
                }
            }
            return sum;
        }
    }

    /** THE TEXT, and how it is read; each way of reading stops at the first byte that does not fit. */
    private static final class Text {
        private final char[] signs = new char[MOST_TEXT];
        private int length;
        private int at;
        private int number;

        boolean add(char sign) {
            if (length >= MOST_TEXT) {
                return false;
            }
            signs[length] = sign;
            length++;
            return true;
        }

        /** Whether it is a PARISH; if not, at is the FAULT. */
        boolean parse(Parish into) {
            into.startOver();
            at = 0;
            for (int n = 0; n < MOST_CLAUSES; n++) {
                if (n > 0 && !take(';') || !clause(into)) {
                    return false;
                }
                if (at == length) {
                    return true;
                }
            }
            return false;
        }

        /** At the end this is sign 0, with which nothing can go on either. */
        private char next() {
            return at >= 0 && at < length && at < MOST_TEXT ? signs[at] : (char) 0;
        }

        private boolean take(char sign) {
            if (next() != sign) {
                return false;
            }
            at++;
            return true;
        }

        private boolean takeWord(String word) {
            for (int n = 0; n < word.length(); n++) {
                if (!take(word.charAt(n))) {
                    return false;
                }
            }
            return true;
        }

        private boolean clause(Parish into) {
            char first = next();
            String word = first == 's' ? "sting " : first == 'b' ? "balm " : "need ";
            if (!takeWord(word) || !takeNumber()) {
                return false;
            }
            int n = number;
            if (first == 'n') {
                into.need = n;
                return true;
            }
            if (!take(' ') || !either(into, 0)) {
                return false;
            }
            into.put(ADD, first == 's' ? n : -n);
            return true;
        }

        private boolean takeNumber() {
            number = 0;
            int digits = 0;
            while (digits < 2 && next() >= '0' && next() <= '9') {
                number = number * 10 + (next() - '0');
                at++;
                digits++;
            }
            return digits > 0;
        }

        /** E */
        private boolean either(Parish into, int nested) {
            boolean isGood = both(into, nested);
            for (int n = 0; n < MOST_TEXT && isGood && take('|'); n++) {
                isGood = both(into, nested);
                into.put(OR, 0);
            }
            return isGood;
        }

        /** T */
        private boolean both(Parish into, int nested) {
            boolean isGood = factor(into, nested);
            for (int n = 0; n < MOST_TEXT && isGood && take('&'); n++) {
                isGood = factor(into, nested);
                into.put(AND, 0);
            }
            return isGood;
        }

        /** F */
        private boolean factor(Parish into, int nested) {
            boolean isNot = next() == '!';
            if (!isNot && next() != '(') {
                return test(into);
            }
            if (nested >= MOST_NESTED) {
                return false;
            }
            at++;
            if (!isNot) {
                return either(into, nested + 1) && take(')');
            }
            boolean isGood = factor(into, nested + 1);
            into.put(NOT, 0);
            return isGood;
        }

        private boolean test(Parish into) {
            int letter = LETTERS.indexOf(next());
            if (letter < 0) {
                return false;
            }
            at++;
            int compare = COMPARES.indexOf(next());
            if (compare < 0) {
                return false;
            }
            at++;
            if (!takeNumber()) {
                return false;
            }
            into.put(letter * 3 + compare, number);
            return true;
        }
    }

    /** What is asked of sets and rows of PEOPLE; its rows are used again by each call. */
    private static final class Choices {
        private final int[] enemies = new int[MOST_PEOPLE];
        private final int[] throwers = new int[MOST_PEOPLE];
        private final int[] enemiesByDay = new int[MOST_PEOPLE * MOST_PEOPLE];
        private final int[] ways = new int[SETS];

        /** ENEMIES today of each of these, 0 for all others. */
        private void findEnemies(Village village, int whose) {
            for (int p = 0; p < MOST_PEOPLE; p++) {
                enemies[p] = bit(whose, p) == 1 ? village.enemiesOf(p, village.day) : 0;
            }
        }

        int lonely(Village village) {
            int alive = village.alive();
            findEnemies(village, alive);
            int lonely = 0;
            for (int p = 0; p < MOST_PEOPLE; p++) {
                if (bit(alive, p) == 1 && enemies[p] == 0) {
                    lonely |= 1 << p;
                }
            }
            return lonely;
        }

        int keep(Village village) {
            int alive = village.alive();
            findEnemies(village, alive);
            int best = NO_SUCH;
            int fewest = MOST_PEOPLE + 1;
            for (int set = 0; set < SETS; set++) {
                int size = Integer.bitCount(set);
                if ((set & ~alive) == 0 && size < fewest && isEnough(set, alive)) {
                    best = set;
                    fewest = size;
                }
            }
            return best;
        }

        private boolean isEnough(int set, int alive) {
            for (int p = 0; p < MOST_PEOPLE; p++) {
                if (bit(alive, p) == 1 && (enemies[p] & set) == 0) {
                    return false;
                }
            }
            return true;
        }

        /** Fills the throwers, each the least with which the most are still reached: so the first row of all. */
        int findThrowers(Village village) {
            findEnemies(village, village.dead & ~village.buried);
            int most = mostFrom(enemies, 0, 0);
            int left = most;
            int used = 0;
            for (int p = 0; p < MOST_PEOPLE; p++) {
                throwers[p] = NO_SUCH;
                for (int t = 0; t < MOST_PEOPLE && throwers[p] == NO_SUCH; t++) {
                    boolean isFree = bit(enemies[p] & ~used, t) == 1;
                    if (isFree && mostFrom(enemies, p + 1, used | 1 << t) + 1 == left) {
                        throwers[p] = t;
                        used |= 1 << t;
                        left--;
                    }
                }
            }
            return most;
        }

        /** How many at most can have a thrower, of those from p on. */
        private static int mostFrom(int[] enemies, int p, int used) {
            if (p < 0 || p >= MOST_PEOPLE || p >= enemies.length) {
                return 0;
            }
            int most = mostFrom(enemies, p + 1, used);
            for (int t = 0; t < MOST_PEOPLE; t++) {
                if (bit(enemies[p] & ~used, t) == 1) {
                    most = Math.max(most, mostFrom(enemies, p + 1, used | 1 << t) + 1);
                }
            }
            return most;
        }

        /** In how many ORDERS each set can die: whether one can die next depends on who did, not on their order. */
        private void findWays(Village village) {
            int alive = village.alive();
            for (int set = 0; set < SETS; set++) {
                ways[set] = set == 0 ? 1 : 0;
            }
            for (int set = 0; set < SETS; set++) {
                int died = Integer.bitCount(set);
                for (int p = 0; p < MOST_PEOPLE && died < MOST_PEOPLE; p++) {
                    int enemiesLeft = enemiesByDay[died * MOST_PEOPLE + p] & ~set;
                    if (bit(alive & ~set, p) == 1 && enemiesLeft != 0) {
                        ways[set | 1 << p] += ways[set];
                    }
                }
            }
        }

        private void findEnemiesByDay(Village village) {
            for (int died = 0; died < MOST_PEOPLE; died++) {
                for (int p = 0; p < MOST_PEOPLE; p++) {
                    int on = village.day + died;
                    enemiesByDay[died * MOST_PEOPLE + p] = village.has(p) ? village.enemiesOf(p, on) : 0;
                }
            }
        }

        int rowsOf(Village village, int n) {
            findEnemiesByDay(village);
            findWays(village);
            int rows = 0;
            for (int set = 0; set < SETS; set++) {
                if (Integer.bitCount(set) == n) {
                    rows += ways[set];
                }
            }
            return rows;
        }

        int longest(Village village) {
            findEnemiesByDay(village);
            findWays(village);
            int longest = 0;
            for (int set = 0; set < SETS; set++) {
                if (ways[set] > 0) {
                    longest = Math.max(longest, Integer.bitCount(set));
                }
            }
            return longest;
        }
    }

    /** One who acts, and which bodies ran. */
    private static final class Acts {
        private final int[] bodies = new int[MOST_TRACE];
        private int ran;
        private int number;
        private int kind;
        private int v;

        /** The body of the KIND from, or of the next one above that has one; its calls of super start above itself. */
        private static int run(Acts by, int act, int from, int x, int depth) {
            if (depth > MOST_CALLS) {
                return 0;
            }
            int body = bodyFor(act, from);
            by.note(body);
            int deeper = depth + 1;
            switch (body) {
                case 10:
                    return x + by.number;
                case 11:
                    return run(by, DIGS, by.kind, x, deeper) - by.v;
                case 12:
                    return run(by, CASTS, by.kind, x, deeper) * 2;
                case 20:
                    return run(by, CASTS, ONE, x, deeper) ^ 6;
                case 30:
                    return run(by, DIGS, ONE, x * 3, deeper);
                case 40:
                    return run(by, TELLS, ONE, x, deeper) + run(by, CASTS, by.kind, 1, deeper);
                case 50:
                    return -run(by, DIGS, MILD, x, deeper);
                case 51:
                    return run(by, CASTS, MILD, x + 1, deeper);
                case 60:
                    return run(by, TELLS, SISTER, x - by.number, deeper);
                case 70:
                    return run(by, CASTS, STERN, x, deeper) + run(by, DIGS, STERN, 2, deeper);
                case 71:
                    return run(by, DIGS, STERN, x, deeper) ^ by.v;
                default:
                    return 0;
            }
        }

        private static int bodyFor(int act, int from) {
            int kind = from;
            for (int n = 0; n < KINDS && kind >= 0 && kind < KINDS && act >= 0 && act < ACTS; n++) {
                if (BODIES[kind * ACTS + act] != 0) {
                    return BODIES[kind * ACTS + act];
                }
                kind = ABOVE[kind];
            }
            return 0;
        }

        private void note(int body) {
            if (ran < MOST_TRACE) {
                bodies[ran] = body;
            }
            ran++;
        }
    }

    /** A row of one sort; what lies in items is cut to the sort already. */
    private static final class Tape {
        private final long[] items = new long[MOST_ITEMS];
        private int sort = EMPTY;
        private int length;

        void become(int newSort, int n) {
            sort = newSort;
            length = Math.max(0, Math.min(n, MOST_ITEMS));
            for (int i = 0; i < MOST_ITEMS; i++) {
                items[i] = 0;
            }
        }

        boolean has(int i) {
            return i >= 0 && i < length;
        }

        boolean hasPart(int i, int n) {
            return n >= 0 && n <= length && i >= 0 && i <= length - n;
        }

        long cut(long v) {
            switch (sort) {
                case BYTES:
                    return (byte) v;
                case SHORTS:
                    return (short) v;
                case INTS:
                    return (int) v;
                case BOOLEANS:
                    return v != 0 ? 1 : 0;
                default:
                    return v;
            }
        }
    }
}
