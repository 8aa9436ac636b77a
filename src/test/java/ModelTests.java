/** Runs of 512 calls, drawn from seeds that are told here, answered by the class and by the Model. */
public final class ModelTests {
    private static final int RUNS = 400;
    private static final int CALLS = 512;
    private static final int CALL_SORTS = 33;
    private static final int[] WILD = {
        Integer.MIN_VALUE, Integer.MIN_VALUE + 9, -100, -2, -1, 60, 61, 99, 100, 127, 128, Integer.MAX_VALUE - 3,
        Integer.MAX_VALUE
    };

    private final Draws random;
    private final NoGraveEnemy x = new NoGraveEnemy();
    private final Model y = new Model();
    private final int run;
    private int wildOneIn = 40;

    private ModelTests(int run) {
        this.run = run;
        this.random = new Draws(run);
    }

    public static void main(String[] args) {
        for (int run = 0; run < RUNS; run++) {
            new ModelTests(run).go();
        }
        for (int run = 0; run < 4000; run++) {
            new ModelTests(run).goTexts();
        }
        for (int run = 0; run < 60; run++) {
            new ModelTests(run).goWild();
        }
        Due.end();
    }

    private void due(String call, long got, long want, int... args) {
        StringBuilder told = new StringBuilder("run " + run + ": " + call);
        for (int arg : args) {
            told.append(' ').append(arg);
        }
        Due.due(told.toString(), got, want);
    }

    /** A number mostly below n, now and then a little or far beside it. */
    private int any(int n) {
        int how = random.nextInt(wildOneIn);
        if (how == 0) {
            return WILD[random.nextInt(WILD.length)];
        }
        return how == 1 ? random.nextBoolean() ? -1 : n : random.nextInt(n);
    }

    private int below(int n) {
        return random.nextInt(n);
    }

    private void go() {
        int calls = 0;
        int people = below(7);
        for (int n = 0; n < people; n++) {
            call(0);
            calls++;
        }
        for (int n = 0; n < 30; n++) {
            int one = below(6);
            int other = below(6);
            int hate = below(100);
            due("hate", x.hate(one, other, hate), y.hate(one, other, hate), one, other, hate);
            calls++;
        }
        if (random.nextInt(3) > 0) {
            calls += parish(text());
        }
        while (calls < CALLS - 110) {
            int sort = below(CALL_SORTS + 12);
            if (sort == CALL_SORTS) {
                calls += parish(text());
            } else {
                call(sort > CALL_SORTS ? sort % 10 : sort);
                calls++;
            }
        }
    }

    private void goWild() {
        wildOneIn = 8;
        for (int n = 0; n < CALLS; n++) {
            call(below(CALL_SORTS));
        }
    }

    private void goTexts() {
        parish(text());
        if (random.nextBoolean()) {
            call(0);
            call(0);
            due("SPITE", x.between(0, 1, 1), y.between(0, 1, 1));
            due("NEED", x.told(1), y.told(1));
        }
    }

    private int parish(String text) {
        for (int i = 0; i < text.length(); i++) {
            due("feed", x.feed(text.charAt(i)), y.feed(text.charAt(i)), text.charAt(i));
        }
        due("parish '" + text + "'", x.parish(), y.parish());
        return text.length() + 1;
    }

    /** Clauses, cut at 100 bytes, half of them spoilt at a place. */
    private String text() {
        StringBuilder text = new StringBuilder();
        int clauses = 1 + below(random.nextInt(8) == 0 ? 12 : 4);
        for (int n = 0; n < clauses; n++) {
            text.append(n == 0 ? "" : ";");
            if (clauses > 5 || random.nextInt(3) == 0) {
                text.append("need ").append(number(60));
            } else {
                text.append(random.nextBoolean() ? "sting " : "balm ").append(number(50)).append(' ').append(either(0));
            }
        }
        String signs = "()!&|;pqkvhdz<=>0123456789 stingbalmneed";
        if (random.nextInt(3) == 0) {
            int at = below(text.length());
            char sign = signs.charAt(below(signs.length()));
            if (random.nextBoolean()) {
                text.setCharAt(at, sign);
            } else {
                text.insert(at, sign);
            }
        }
        if (random.nextInt(6) == 0) {
            text.setLength(below(text.length()));
        }
        if (text.length() > 100) {
            text.setLength(100);
        }
        return text.toString();
    }

    private String number(int n) {
        int number = below(n);
        return number < 10 && random.nextBoolean() ? "0" + number : "" + number;
    }

    private String either(int deep) {
        StringBuilder e = new StringBuilder(both(deep));
        while (random.nextInt(4) == 0) {
            e.append('|').append(both(deep));
        }
        return e.toString();
    }

    private String both(int deep) {
        StringBuilder t = new StringBuilder(factor(deep));
        while (random.nextInt(4) == 0) {
            t.append('&').append(factor(deep));
        }
        return t.toString();
    }

    private String factor(int deep) {
        int most = random.nextInt(40) == 0 ? 5 : 4;
        int how = deep < most ? below(5) : 2;
        if (how == 0) {
            return "!" + factor(deep + 1);
        }
        if (how == 1) {
            return "(" + either(deep + 1) + ")";
        }
        return "" + "pqkvhd".charAt(below(6)) + "<=>".charAt(below(3)) + number(random.nextInt(9) == 0 ? 30 : 9);
    }

    private void call(int sort) {
        int a = any(6);
        int b = any(6);
        boolean is = random.nextBoolean();
        switch (sort) {
            case 0:
                int kind = any(7);
                int v = any(10);
                due("one", x.one(kind, v), y.one(kind, v), kind, v);
                return;
            case 1:
                int what = any(7);
                due("of", x.of(a, what), y.of(a, what), a, what);
                return;
            case 2:
                int n = any(100);
                due("hate", x.hate(a, b, n), y.hate(a, b, n), a, b, n);
                return;
            case 3:
                int how = any(4);
                due("between", x.between(a, b, how), y.between(a, b, how), a, b, how);
                return;
            case 4:
                due("die", x.die(a, is), y.die(a, is), a, is ? 1 : 0);
                return;
            case 5:
                int part = any(4);
                int to = any(10);
                due("row", x.row(a, part, to), y.row(a, part, to), a, part, to);
                return;
            case 6:
                int told = any(8);
                due("told", x.told(told), y.told(told), told);
                return;
            case 7:
                int days = random.nextInt(3) > 0 ? below(3) : any(61);
                due("pass", x.pass(days), y.pass(days), days);
                return;
            case 8:
                int later = any(31);
                int asked = random.nextInt(3) == 0 ? 0 : any(57);
                due("on", x.on(later, asked), y.on(later, asked), later, asked);
                return;
            case 9:
                int handful = random.nextInt(3) == 0 ? 0 : any(7) + 10;
                due("handful", x.handful(handful), y.handful(handful), handful);
                return;
            default:
                callMore(sort, a, b);
        }
    }

    private void callMore(int sort, int a, int b) {
        boolean is = random.nextBoolean();
        int part = any(2);
        switch (sort) {
            case 10:
                int many = any(7);
                due("orders", x.orders(many), y.orders(many), many);
                return;
            case 11:
                int days = any(21);
                due("see", x.see(a, b, days, is), y.see(a, b, days, is), a, b, days, is ? 1 : 0);
                return;
            case 12:
                due("hates", x.hates(a, b, part), y.hates(a, b, part), a, b, part);
                return;
            case 13:
                due("can", x.can(a, part), y.can(a, part), a, part);
                return;
            case 14:
                due("odds", x.odds(a, part), y.odds(a, part), a, part);
                return;
            case 15:
                due("mean", x.mean(part), y.mean(part), part);
                return;
            case 16:
                int goes = any(4);
                due("plan", x.plan(goes, a), y.plan(goes, a), goes, a);
                return;
            case 17:
                due("ends", x.ends(part), y.ends(part), part);
                return;
            case 18:
                int hate = is ? Math.max(0, y.between(a, b, 0)) : any(100);
                due("book", x.book(a, b, hate), y.book(a, b, hate), a, b, hate);
                return;
            case 19:
                due("looked", x.looked(), y.looked());
                return;
            case 20:
                due("image", x.image(), y.image());
                return;
            case 21:
                due("undo", x.undo(), y.undo());
                return;
            default:
                callTapes(sort, a, b);
        }
    }

    private void callTapes(int sort, int a, int b) {
        int i = random.nextInt(6) == 0 ? any(60) : any(5);
        int j = any(5);
        int n = random.nextInt(4) == 0 ? any(61) : any(7);
        switch (sort) {
            case 22:
                due("judge", x.judge(a, i), y.judge(a, i), a, i);
                return;
            case 23:
                int act = any(3);
                int by = random.nextInt();
                due("act", x.act(a, act, by), y.act(a, act, by), a, act, by);
                return;
            case 24:
                int at = any(21);
                due("trace", x.trace(at), y.trace(at), at);
                return;
            case 25:
                int k = any(7);
                due("taken", x.taken(a, k), y.taken(a, k), a, k);
                return;
            case 26:
                int what = any(7);
                due("count", x.count(what), y.count(what), what);
                return;
            case 27:
                int like = any(6) - 1;
                int of = random.nextInt(3) == 0 ? 4 : like;
                due("tape", x.tape(a, of, n), y.tape(a, of, n), a, of, n);
                return;
            case 28:
            case 29:
                long v = random.nextInt(3) == 0 ? 0 : random.nextLong();
                due("item", x.item(a, i, v), y.item(a, i, v), a, i);
                return;
            case 30:
                due("read", x.read(a, i), y.read(a, i), a, i);
                return;
            case 31:
                due("shift", x.shift(a, i, b, j, n), y.shift(a, i, b, j, n), a, i, b, j, n);
                return;
            default:
                int sign = any(128);
                due("feed", x.feed(sign), y.feed(sign), sign);
        }
    }
}
