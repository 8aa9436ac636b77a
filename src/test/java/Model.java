import java.util.ArrayList;
import java.util.Arrays;
import java.util.List;
import java.util.Set;
import java.util.TreeSet;

/** The document once more, as slowly and as plainly as can be: all ways are tried, all kinds are Java's own. */
final class Model {
    private static final long NO = Long.MIN_VALUE;

    private static class One {
        Model in;
        int kind;
        int number;
        int v;
        boolean dead;
        boolean buried;
        int thrown;
        int[] row = new int[4];
        int[] hate = new int[6];

        int sum(int other, int day) {
            return hate[other] + in.holding().weigh(this, other, day);
        }

        int spite(int other, int day) {
            return sum(other, day);
        }

        int digs(int x) {
            in.trace.add(10);
            return x + number;
        }

        int casts(int x) {
            in.trace.add(11);
            return digs(x) - v;
        }

        int tells(int x) {
            in.trace.add(12);
            return casts(x) * 2;
        }
    }

    private static class Mild extends One {
        @Override
        int spite(int other, int day) {
            return sum(other, day) - day % 7;
        }

        @Override
        int casts(int x) {
            in.trace.add(20);
            return super.casts(x) ^ 6;
        }
    }

    private static class Sister extends One {
        @Override
        int spite(int other, int day) {
            return day % 2 == 1 ? sum(other, day) / 2 : sum(other, day);
        }

        @Override
        int digs(int x) {
            in.trace.add(30);
            return super.digs(x * 3);
        }
    }

    private static class Stern extends One {
        @Override
        int spite(int other, int day) {
            return sum(other, day) + v;
        }

        @Override
        int tells(int x) {
            in.trace.add(40);
            return super.tells(x) + casts(1);
        }
    }

    private static final class Friend extends Mild {
        @Override
        int spite(int other, int day) {
            return super.spite(other, day) - 2 * v;
        }

        @Override
        int digs(int x) {
            in.trace.add(50);
            return -super.digs(x);
        }

        @Override
        int casts(int x) {
            in.trace.add(51);
            return super.casts(x + 1);
        }
    }

    private static final class Hired extends Sister {
        @Override
        int spite(int other, int day) {
            return super.spite(other, day) + (other > number ? 20 : 0);
        }

        @Override
        int tells(int x) {
            in.trace.add(60);
            return super.tells(x - number);
        }
    }

    private static final class Told extends Stern {
        @Override
        int spite(int other, int day) {
            return super.spite(other, day) + row[day % 4];
        }

        @Override
        int casts(int x) {
            in.trace.add(70);
            return super.casts(x) + super.digs(2);
        }

        @Override
        int digs(int x) {
            in.trace.add(71);
            return super.digs(x) ^ v;
        }
    }

    private static final Class<?>[] KINDS = {
        One.class, Mild.class, Sister.class, Stern.class, Friend.class, Hired.class, Told.class
    };

    private static One make(int kind) {
        switch (kind) {
            case 0:
                return new One();
            case 1:
                return new Mild();
            case 2:
                return new Sister();
            case 3:
                return new Stern();
            case 4:
                return new Friend();
            case 5:
                return new Hired();
            default:
                return new Told();
        }
    }

    /** A text that is known to be good, looked at anew each time. */
    private static final class Parish {
        private final String text;

        Parish(String text) {
            this.text = text;
        }

        int need() {
            int need = 30;
            for (String clause : text.split(";")) {
                if (clause.startsWith("need ")) {
                    need = Integer.parseInt(clause.substring(5));
                }
            }
            return need;
        }

        int weigh(One one, int other, int day) {
            int weight = 0;
            for (String clause : text.split(";")) {
                String[] words = clause.split(" ");
                if (words.length == 3 && holds(words[2], one, other, day)) {
                    weight += (words[0].equals("sting") ? 1 : -1) * Integer.parseInt(words[1]);
                }
            }
            return weight;
        }

        private static List<String> split(String e, char by) {
            List<String> parts = new ArrayList<>();
            int open = 0;
            int from = 0;
            for (int i = 0; i < e.length(); i++) {
                open += e.charAt(i) == '(' ? 1 : e.charAt(i) == ')' ? -1 : 0;
                if (open == 0 && e.charAt(i) == by) {
                    parts.add(e.substring(from, i));
                    from = i + 1;
                }
            }
            parts.add(e.substring(from));
            return parts;
        }

        private static boolean holds(String e, One one, int other, int day) {
            List<String> either = split(e, '|');
            if (either.size() > 1) {
                return either.stream().anyMatch(t -> holds(t, one, other, day));
            }
            List<String> both = split(e, '&');
            if (both.size() > 1) {
                return both.stream().allMatch(f -> holds(f, one, other, day));
            }
            if (e.startsWith("!")) {
                return !holds(e.substring(1), one, other, day);
            }
            if (e.startsWith("(")) {
                return holds(e.substring(1, e.length() - 1), one, other, day);
            }
            int n = Integer.parseInt(e.substring(2));
            int fact;
            switch (e.charAt(0)) {
                case 'p':
                    fact = one.number;
                    break;
                case 'q':
                    fact = other;
                    break;
                case 'k':
                    fact = one.kind;
                    break;
                case 'v':
                    fact = one.v;
                    break;
                case 'h':
                    fact = one.hate[other] / 10;
                    break;
                default:
                    fact = day % 10;
                    break;
            }
            return e.charAt(1) == '<' ? fact < n : e.charAt(1) == '>' ? fact > n : fact == n;
        }
    }

    /** Which bytes may come next, told from all that came: the shape of the text so far, without its numbers. */
    private static final class Shape {
        private int clauses = 1;
        private String head = "";
        private String digits = "";
        private final StringBuilder open = new StringBuilder();
        private String test = "";

        private boolean isHead() {
            return !head.endsWith(".");
        }

        /** head is the word, then its number, then "." where E begins. */
        boolean take(char c) {
            return isHead() ? takeHead(c) : takeE(c);
        }

        private boolean takeHead(char c) {
            for (String word : new String[] {"sting ", "balm ", "need "}) {
                if (word.startsWith(head + c)) {
                    head += c;
                    return true;
                }
            }
            if (!head.endsWith(" ")) {
                return false;
            }
            if (Character.isDigit(c) && digits.length() < 2) {
                digits += c;
                return true;
            }
            if (digits.isEmpty()) {
                return false;
            }
            if (head.equals("need ")) {
                return c == ';' && nextClause();
            }
            if (c == ' ') {
                head = ".";
                return true;
            }
            return false;
        }

        private boolean nextClause() {
            clauses++;
            head = "";
            digits = "";
            test = "";
            open.setLength(0);
            return clauses <= 10;
        }

        private boolean isFactorDue() {
            return test.isEmpty();
        }

        private boolean isFactorWhole() {
            return test.equals(")") || test.length() >= 3;
        }

        private boolean takeE(char c) {
            if (isFactorDue()) {
                if (c == '!' || c == '(') {
                    open.append(c);
                    return open.length() <= 4;
                }
                test = "" + c;
                return "pqkvhd".indexOf(c) >= 0;
            }
            if (test.length() == 1 && !test.equals(")")) {
                test += c;
                return "<=>".indexOf(c) >= 0;
            }
            if (Character.isDigit(c) && (test.length() == 2 || test.length() == 3)) {
                test += c;
                return true;
            }
            return isFactorWhole() && takeBehind(c);
        }

        private boolean takeBehind(char c) {
            while (open.length() > 0 && open.charAt(open.length() - 1) == '!') {
                open.setLength(open.length() - 1);
            }
            if (c == '&' || c == '|') {
                test = "";
                return true;
            }
            if (c == ')' && open.length() > 0) {
                open.setLength(open.length() - 1);
                test = ")";
                return true;
            }
            return c == ';' && open.length() == 0 && nextClause();
        }

        boolean isWhole() {
            if (isHead()) {
                return head.equals("need ") && !digits.isEmpty();
            }
            return isFactorWhole() && open.indexOf("(") < 0;
        }
    }

    private static final class Tape {
        final int sort;
        final long[] items;

        Tape(int sort, int n) {
            this.sort = sort;
            this.items = new long[n];
        }
    }

    private List<One> people = new ArrayList<>();
    private int day;
    private List<int[]> seen = new ArrayList<>();
    private List<int[]> plan = new ArrayList<>();
    private List<int[]> book = new ArrayList<>();
    private Parish holding;

    private Model kept;
    private String text = "";
    private int parishes;
    private List<Integer> trace = new ArrayList<>();
    private final Tape[] tapes = new Tape[6];

    private Parish holding() {
        return holding == null ? new Parish("") : holding;
    }

    /** All that THE IMAGE keeps. */
    private Model copy() {
        Model copy = new Model();
        copy.keep(this);
        return copy;
    }

    private void keep(Model of) {
        people = new ArrayList<>();
        for (One p : of.people) {
            One one = make(p.kind);
            one.in = this;
            one.kind = p.kind;
            one.number = p.number;
            one.v = p.v;
            one.dead = p.dead;
            one.buried = p.buried;
            one.thrown = p.thrown;
            one.row = p.row.clone();
            one.hate = p.hate.clone();
            people.add(one);
        }
        day = of.day;
        seen = new ArrayList<>(of.seen);
        plan = new ArrayList<>(of.plan);
        book = new ArrayList<>(of.book);
        holding = of.holding;
    }

    private boolean is(int p) {
        return p >= 0 && p < people.size();
    }

    private boolean isEnemy(int one, int other, int on) {
        return one != other && !people.get(one).dead && people.get(one).spite(other, on) >= holding().need();
    }

    private Set<Integer> enemies(int other, int on) {
        Set<Integer> enemies = new TreeSet<>();
        for (One one : people) {
            if (isEnemy(one.number, other, on)) {
                enemies.add(one.number);
            }
        }
        return enemies;
    }

    private static int bits(Set<Integer> set) {
        return set.stream().mapToInt(p -> 1 << p).sum();
    }

    private Set<Integer> alive() {
        Set<Integer> alive = new TreeSet<>();
        for (One one : people) {
            if (!one.dead) {
                alive.add(one.number);
            }
        }
        return alive;
    }

    private int buriedBits() {
        return people.stream().filter(p -> p.buried).mapToInt(p -> 1 << p.number).sum();
    }

    private int allHate() {
        return people.stream().mapToInt(p -> Arrays.stream(p.hate).sum()).sum();
    }

    private Model goDay() {
        Set<Integer> threw = new TreeSet<>();
        for (One one : people) {
            if (one.dead && !one.buried) {
                for (int enemy : enemies(one.number, day)) {
                    if (threw.add(enemy)) {
                        one.buried = true;
                        people.get(enemy).thrown++;
                        people.get(enemy).hate[one.number] = 0;
                        break;
                    }
                }
            }
        }
        day++;
        return this;
    }

    private Model after(int n) {
        Model copy = copy();
        for (int i = 0; i < n; i++) {
            copy.goDay();
        }
        return copy;
    }

    int one(int kind, int v) {
        if (kind < 0 || kind > 6) {
            return -1;
        }
        if (v < 0 || v > 9) {
            return -2;
        }
        if (people.size() == 6) {
            return -4;
        }
        One one = make(kind);
        one.in = this;
        one.kind = kind;
        one.v = v;
        one.number = people.size();
        people.add(one);
        return one.number;
    }

    int of(int person, int what) {
        if (!is(person) || what < 0 || what > 6) {
            return -1;
        }
        One one = people.get(person);
        int[] plain = {one.kind, one.v, one.dead ? 1 : 0, one.buried ? 1 : 0, one.thrown, bits(enemies(person, day))};
        if (what < 6) {
            return plain[what];
        }
        for (int n = 0; n <= 30 && one.dead; n++) {
            if (after(n).people.get(person).buried) {
                return n;
            }
        }
        return -5;
    }

    int hate(int one, int other, int n) {
        if (!is(one) || !is(other)) {
            return -1;
        }
        if (one == other || n < 0 || n > 99) {
            return -2;
        }
        int was = people.get(one).hate[other];
        people.get(one).hate[other] = n;
        return was;
    }

    int between(int one, int other, int what) {
        if (!is(one) || !is(other) || what < 0 || what > 3) {
            return -10001;
        }
        if (one == other) {
            return -10002;
        }
        if (what == 0) {
            return people.get(one).hate[other];
        }
        if (what == 1) {
            return people.get(one).spite(other, day);
        }
        if (what == 2) {
            return isEnemy(one, other, day) ? 1 : 0;
        }
        for (int n = 0; n < 30; n++) {
            if (!isEnemy(one, other, day + n)) {
                return n;
            }
        }
        return 30;
    }

    int die(int person, boolean is) {
        if (!is(person)) {
            return -1;
        }
        One one = people.get(person);
        int was = one.dead ? 1 : 0;
        one.dead = is;
        one.buried = is && one.buried;
        return was;
    }

    int row(int person, int part, int n) {
        if (!is(person) || part < 0 || part > 3) {
            return -1;
        }
        if (n < 0 || n > 9) {
            return -2;
        }
        if (people.get(person).kind != 6) {
            return -3;
        }
        int was = people.get(person).row[part];
        people.get(person).row[part] = n;
        return was;
    }

    int feed(int sign) {
        if (sign < 0 || sign > 127) {
            return -2;
        }
        if (text.length() == 100) {
            return -4;
        }
        text += (char) sign;
        return text.length();
    }

    int parish() {
        if (parishes == 6) {
            return -4;
        }
        String read = text;
        text = "";
        Shape shape = new Shape();
        for (int i = 0; i < read.length(); i++) {
            if (!shape.take(read.charAt(i))) {
                return -10 - i;
            }
        }
        if (!shape.isWhole()) {
            return -10 - read.length();
        }
        holding = new Parish(read);
        return parishes++;
    }

    int told(int what) {
        switch (what) {
            case 0:
                return day;
            case 1:
                return holding().need();
            case 2:
                return people.stream().filter(p -> p.dead).mapToInt(p -> 1 << p.number).sum();
            case 3:
                return buriedBits();
            case 4:
                return allHate();
            case 5:
                return alive().stream().filter(p -> enemies(p, day).isEmpty()).mapToInt(p -> 1 << p).sum();
            case 6:
                return keep();
            case 7:
                int longest = 0;
                for (int n = 1; n <= 6; n++) {
                    longest = orders(n) > 0 ? n : longest;
                }
                return longest;
            default:
                return -1;
        }
    }

    private int keep() {
        int alive = bits(alive());
        for (int size = 0; size <= 6; size++) {
            for (int set = 0; set < 64; set++) {
                int s = set;
                if (Integer.bitCount(set) == size && (set & ~alive) == 0
                        && alive().stream().allMatch(p -> (bits(enemies(p, day)) & s) != 0)) {
                    return set;
                }
            }
        }
        return -5;
    }

    int pass(int n) {
        if (n < 0 || n > 60) {
            return -2;
        }
        if (day + n > 9999) {
            return -3;
        }
        for (int i = 0; i < n; i++) {
            goDay();
        }
        return day;
    }

    int on(int n, int what) {
        boolean isThrown = what >= 10 && what < 16 && is(what - 10);
        boolean isHate = what >= 20 && what < 56 && is((what - 20) / 6) && is((what - 20) % 6);
        if (what != 0 && !isThrown && !isHate) {
            return -1;
        }
        if (n < 0 || n > 30) {
            return -2;
        }
        Model then = after(n);
        if (what == 0) {
            return then.buriedBits();
        }
        return isThrown ? then.people.get(what - 10).thrown : then.people.get((what - 20) / 6).hate[(what - 20) % 6];
    }

    private int[] bestHandfuls;

    private static int given(int[] row) {
        return (int) Arrays.stream(row).filter(t -> t != 9).count();
    }

    private void tryHandfuls(int p, int[] row) {
        if (p == people.size()) {
            if (bestHandfuls == null || given(row) > given(bestHandfuls)) {
                bestHandfuls = row.clone();
            }
            return;
        }
        One one = people.get(p);
        for (int t = 0; t <= 9; t++) {
            int thrower = t;
            boolean isTaken = Arrays.stream(row, 0, p).anyMatch(u -> u == thrower);
            boolean canThrow = one.dead && !one.buried && enemies(p, day).contains(t) && !isTaken;
            if (canThrow || t == 9) {
                row[p] = t;
                tryHandfuls(p + 1, row);
            }
        }
        row[p] = 9;
    }

    int handful(int what) {
        if (what != 0 && (what < 10 || what > 15 || !is(what - 10))) {
            return -1;
        }
        bestHandfuls = null;
        tryHandfuls(0, new int[people.size()]);
        if (what == 0) {
            return given(bestHandfuls);
        }
        return bestHandfuls[what - 10] == 9 ? -5 : bestHandfuls[what - 10];
    }

    private int rows(int n, List<Integer> row) {
        if (row.size() == n) {
            return 1;
        }
        int rows = 0;
        for (int p : alive()) {
            Set<Integer> enemies = enemies(p, day + row.size());
            enemies.removeAll(row);
            if (!row.contains(p) && !enemies.isEmpty()) {
                row.add(p);
                rows += rows(n, row);
                row.remove(row.size() - 1);
            }
        }
        return rows;
    }

    int orders(int n) {
        return n < 0 || n > 6 ? -2 : rows(n, new ArrayList<>());
    }

    int see(int one, int other, int n, boolean does) {
        if (one == -1) {
            seen.clear();
            return 0;
        }
        if (!is(one) || !is(other)) {
            return -1;
        }
        if (one == other || n < 0 || n > 20) {
            return -2;
        }
        if (seen.size() == 5) {
            return -4;
        }
        seen.add(new int[] {one, other, n, does ? 1 : 0});
        return seen.size();
    }

    private boolean isSo(int[] row) {
        return people.get(row[0]).spite(row[1], day + row[2]) >= holding().need() == (row[3] == 1);
    }

    private static int told(List<Integer> fitting, int what) {
        return what == 0 ? fitting.size() : fitting.isEmpty() ? -5 : fitting.get(0);
    }

    int hates(int one, int other, int what) {
        if (!is(one) || !is(other) || what != 0 && what != 1) {
            return -1;
        }
        if (one == other) {
            return -2;
        }
        List<Integer> fitting = new ArrayList<>();
        Model copy = copy();
        for (int n = 0; n <= 99; n++) {
            copy.people.get(one).hate[other] = n;
            if (seen.stream().allMatch(row -> row[0] != one || row[1] != other || copy.isSo(row))) {
                fitting.add(n);
            }
        }
        return told(fitting, what);
    }

    int can(int person, int what) {
        if (!is(person) || what != 0 && what != 1) {
            return -1;
        }
        List<Integer> fitting = new ArrayList<>();
        Model copy = copy();
        for (int n = 0; n <= 9; n++) {
            copy.people.get(person).v = n;
            if (seen.stream().allMatch(row -> row[0] != person || copy.isSo(row))) {
                fitting.add(n);
            }
        }
        return told(fitting, what);
    }

    private static long fraction(int above, int below, int part) {
        for (int by = below; by > 1; by--) {
            if (above % by == 0 && below % by == 0) {
                return (part == 0 ? above : below) / by;
            }
        }
        return part == 0 ? above : below;
    }

    long odds(int person, int part) {
        if (!is(person) || people.size() == 1 || part != 0 && part != 1) {
            return NO;
        }
        int above = 0;
        for (One other : people) {
            if (other.number != person) {
                Model copy = copy();
                copy.people.get(other.number).dead = true;
                above += copy.enemies(person, day).isEmpty() ? 0 : 1;
            }
        }
        return fraction(above, people.size() - 1, part);
    }

    long mean(int part) {
        return people.isEmpty() || part != 0 && part != 1 ? NO : fraction(allHate(), people.size(), part);
    }

    int plan(int what, int person) {
        if (what == -1) {
            plan.clear();
            return 0;
        }
        if (what < 0 || what > 3 || what > 0 && !is(person)) {
            return -1;
        }
        if (plan.size() == 10) {
            return -4;
        }
        plan.add(new int[] {what, person});
        return plan.size();
    }

    int ends(int what) {
        if (what != 0 && what != 1) {
            return -1;
        }
        Model copy = copy();
        for (int[] row : plan) {
            if (row[0] == 0) {
                copy.goDay();
            } else if (row[0] == 1) {
                copy.die(row[1], true);
            } else if (row[0] == 2) {
                Arrays.fill(copy.people.get(row[1]).hate, 0);
            } else {
                copy.people.forEach(p -> p.hate[row[1]] = 0);
            }
        }
        return what == 0 ? copy.buriedBits() : copy.allHate();
    }

    int book(int one, int other, int hate) {
        if (one == -1) {
            book.clear();
            return 0;
        }
        if (!is(one) || !is(other)) {
            return -1;
        }
        if (one == other || hate < 0 || hate > 99) {
            return -2;
        }
        if (book.size() == 8) {
            return -4;
        }
        book.add(new int[] {one, other, hate});
        return book.size();
    }

    int looked() {
        for (int n = 0; n < book.size(); n++) {
            if (people.get(book.get(n)[0]).hate[book.get(n)[1]] != book.get(n)[2]) {
                return n;
            }
        }
        return -5;
    }

    private static boolean isTape(int tape) {
        return tape >= 0 && tape <= 5;
    }

    int judge(int tape, int i) {
        if (!isTape(tape)) {
            return -1;
        }
        Tape told = tapes[tape];
        if (told != null && told.sort != 4) {
            return -12;
        }
        for (int p = 0; p < people.size(); p++) {
            if (told == null || i < 0 || (long) i + p >= told.items.length) {
                return 100 + p;
            }
            if (told.items[i + p] != (people.get(p).dead ? 1 : 0)) {
                return p;
            }
        }
        return -5;
    }

    int image() {
        kept = copy();
        return people.size();
    }

    int undo() {
        if (kept == null) {
            return -3;
        }
        keep(kept);
        return people.size();
    }

    int act(int person, int act, int x) {
        trace.clear();
        if (!is(person) || act < 0 || act > 2) {
            return 0;
        }
        One one = people.get(person);
        return act == 0 ? one.digs(x) : act == 1 ? one.casts(x) : one.tells(x);
    }

    int trace(int i) {
        return i >= 0 && i < 20 && i < trace.size() ? trace.get(i) : -1;
    }

    int taken(int person, int k) {
        if (k < 0 || k > 6) {
            return -2;
        }
        if (!is(person)) {
            return -11;
        }
        return KINDS[k].isInstance(people.get(person)) ? people.get(person).kind : -12;
    }

    int count(int what) {
        int[] counts = {people.size(), parishes, seen.size(), plan.size(), book.size(), text.length(), trace.size()};
        return what < 0 || what > 6 ? -2 : counts[what];
    }

    int tape(int tape, int sort, int n) {
        if (!isTape(tape)) {
            return -1;
        }
        if (sort == -1) {
            tapes[tape] = null;
            return 1;
        }
        if (sort < 0 || sort > 4 || n > 60) {
            return -2;
        }
        if (n < 0) {
            return -14;
        }
        tapes[tape] = new Tape(sort, n);
        return 1;
    }

    int item(int tape, int i, long v) {
        if (!isTape(tape)) {
            return -1;
        }
        if (tapes[tape] == null) {
            return -11;
        }
        if (i < 0 || i >= tapes[tape].items.length) {
            return -13;
        }
        long[] cut = {(byte) v, (short) v, (int) v, v, v == 0 ? 0 : 1};
        tapes[tape].items[i] = cut[tapes[tape].sort];
        return 1;
    }

    long read(int tape, int i) {
        if (!isTape(tape) || tapes[tape] == null || i < 0 || i >= tapes[tape].items.length) {
            return NO;
        }
        return tapes[tape].items[i];
    }

    int shift(int tape, int i, int other, int j, int n) {
        if (!isTape(tape) || !isTape(other)) {
            return -1;
        }
        if (tapes[tape] == null || tapes[other] == null) {
            return -11;
        }
        if (tapes[tape].sort != tapes[other].sort) {
            return -12;
        }
        if (n < 0 || i < 0 || j < 0 || (long) i + n > tapes[tape].items.length
                || (long) j + n > tapes[other].items.length) {
            return -13;
        }
        long[] before = tapes[tape].items.clone();
        for (int k = 0; k < n; k++) {
            tapes[other].items[j + k] = before[i + k];
        }
        return n;
    }
}
