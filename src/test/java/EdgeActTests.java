/** The edges of ACTS and THE TRACE, of who is taken for what, of what is counted: promises 27 to 30. */
public final class EdgeActTests {
    private static final int TOP = Integer.MAX_VALUE;
    private static final int LOW = Integer.MIN_VALUE;
    private static final int[] WILD = {
        LOW, LOW + 1, LOW / 2 - 1, LOW / 2, LOW / 3, -1, 0, 1, TOP / 3, TOP / 3 + 1, TOP / 2, TOP / 2 + 1, TOP - 1, TOP
    };

    private EdgeActTests() {
    }

    private static void due(String call, long got, long want) {
        Due.due(call, got, want);
    }

    public static void main(String[] args) {
        sumsWrap();
        differencesWrap();
        productsWrap();
        signsWrap();
        likeTheModel();
        actFromEndToEnd();
        noSuchActHasNoTrace();
        traceFromEndToEnd();
        longestTrace();
        traceOfTheLatest();
        takenFromEndToEnd();
        takenForWhat();
        countFromEndToEnd();
        countsOfNothing();
        Due.end();
    }

    /** Number 0 to 5 of this KIND, each with this v. */
    private static NoGraveEnemy six(int kind, int v) {
        NoGraveEnemy x = new NoGraveEnemy();
        for (int n = 0; n < 6; n++) {
            x.one(kind, v);
        }
        return x;
    }

    private static void sumsWrap() {
        due("27 10: x + i", six(0, 0).act(5, 0, TOP), LOW + 4);
        due("27 10: x + i, not yet", six(0, 0).act(5, 0, TOP - 5), TOP);
        due("27 51: x + 1", six(4, 0).act(0, 1, TOP), LOW + 6);
        due("27 40: tells(x) + casts(1)", six(3, 0).act(5, 2, (1 << 30) - 6), LOW + 4);
        due("27 40: tells(x) + casts(1), not yet", six(3, 0).act(5, 2, (1 << 30) - 9), TOP - 1);
        due("27 70: casts(x) + digs(2)", six(6, 0).act(0, 1, TOP), LOW + 1);
        due("27 70: casts(x) + digs(2), of another", six(6, 0).act(3, 1, TOP - 3), LOW + 4);
    }

    private static void differencesWrap() {
        due("27 11: digs(x) - v", six(0, 9).act(0, 1, LOW), TOP - 8);
        due("27 11: digs(x) - v, not yet", six(0, 9).act(0, 1, LOW + 9), LOW);
        due("27 60: x - i", six(5, 0).act(1, 2, LOW), -4);
        due("27 60: x - i, not yet", six(5, 0).act(1, 2, 1), 2);
        due("27 20: ^ 6 of a wrapped", six(1, 1).act(0, 1, LOW), TOP ^ 6);
    }

    private static void productsWrap() {
        due("27 12: * 2", six(0, 0).act(0, 2, 1 << 30), LOW);
        due("27 12: * 2 of the greatest", six(0, 0).act(0, 2, TOP), -2);
        due("27 12: * 2 of the least", six(0, 0).act(0, 2, LOW), 0);
        due("27 12: * 2, not yet", six(0, 0).act(0, 2, (1 << 30) - 1), TOP - 1);
        due("27 30: x * 3", six(2, 0).act(0, 0, TOP), TOP - 2);
        due("27 30: x * 3 of the least", six(2, 0).act(0, 0, LOW), LOW);
        due("27 30: x * 3, one beyond", six(2, 0).act(0, 0, 715827883), LOW + 1);
        due("27 30: x * 3, not yet", six(2, 0).act(0, 0, 715827882), TOP - 1);
    }

    private static void signsWrap() {
        due("27 50: - of the least", six(4, 0).act(0, 0, LOW), LOW);
        due("27 50: - of the greatest", six(4, 0).act(0, 0, TOP), -TOP);
        due("27 50: - of a wrapped", six(4, 0).act(1, 0, TOP), LOW);
        due("27 71: ^ v of a wrapped", six(6, 9).act(1, 0, TOP), LOW ^ 9);
    }

    /** All KINDS, numbers, v and acts, on numbers at which sums and products wrap. */
    private static void likeTheModel() {
        for (int kind = 0; kind <= 6; kind++) {
            for (int v : new int[] {0, 1, 6, 9}) {
                NoGraveEnemy x = six(kind, v);
                Model y = new Model();
                for (int n = 0; n < 6; n++) {
                    y.one(kind, v);
                }
                for (int act = 0; act <= 2; act++) {
                    for (int from : WILD) {
                        like(x, y, from % 6 < 0 ? 5 : from % 6, act, from);
                    }
                }
            }
        }
    }

    private static void like(NoGraveEnemy x, Model y, int person, int act, int from) {
        String call = "27 " + person + " " + act + " " + from + " of KIND " + x.of(person, 0);
        due(call, x.act(person, act, from), y.act(person, act, from));
        due(call + ", bodies", x.count(6), y.count(6));
        due(call + ", the last", x.trace(y.count(6) - 1), y.trace(y.count(6) - 1));
    }

    private static void actFromEndToEnd() {
        NoGraveEnemy x = six(0, 2);
        due("27 act 0", x.act(0, 0, 7), 7);
        due("27 act 1", x.act(0, 1, 7), 5);
        due("27 act 2", x.act(0, 2, 7), 10);
        due("27 person 5", x.act(5, 2, 7), 20);
        for (int act : new int[] {-1, 3, 4, TOP, LOW}) {
            due("27 act " + act, x.act(0, act, 7), 0);
            due("27 act " + act + ", no body", x.count(6), 0);
        }
        for (int person : new int[] {-1, 6, 7, TOP, LOW}) {
            due("27 person " + person, x.act(person, 0, 7), 0);
            due("27 person " + person + ", no body", x.count(6), 0);
        }
        NoGraveEnemy y = Due.of(0, 0);
        due("27 person 1 of 2", y.act(1, 0, 7), 8);
        due("27 person 2 of 2", y.act(2, 0, 7), 0);
        y.die(1, true);
        due("27 who is DEAD", y.act(1, 0, 7), 8);
    }

    /** "0, and no TRACE then" */
    private static void noSuchActHasNoTrace() {
        int[][] none = {{0, 3}, {0, -1}, {6, 0}, {-1, 0}, {6, 3}};
        for (int[] one : none) {
            NoGraveEnemy x = six(0, 2);
            x.act(0, 2, 7);
            due("28 bodies before", x.count(6), 3);
            due("27 no such", x.act(one[0], one[1], 7), 0);
            due("28 no bodies", x.count(6), 0);
            due("28 no TRACE", x.trace(0), -1);
        }
    }

    private static void traceFromEndToEnd() {
        NoGraveEnemy x = six(0, 2);
        due("28 none yet", x.trace(0), -1);
        x.act(0, 1, 7);
        due("28 the first", x.trace(0), 11);
        due("28 the last", x.trace(1), 10);
        for (int i : new int[] {-1, 2, 19, 20, TOP, LOW}) {
            due("28 i " + i, x.trace(i), -1);
        }
    }

    /** The longest that there is: "they began" in this order, "done from the left on". */
    private static void longestTrace() {
        NoGraveEnemy x = six(6, 3);
        int[] bodies = {40, 12, 70, 11, 71, 10, 10, 70, 11, 71, 10, 10};
        x.act(2, 2, 9);
        due("28 bodies", x.count(6), 12);
        for (int i = 0; i < 12; i++) {
            due("28 body " + i, x.trace(i), bodies[i]);
        }
        due("28 behind the last", x.trace(12), -1);
        int casts = (9 + 2 ^ 3) - 3 + 4;
        due("27 from the left on", x.act(2, 2, 9), casts * 2 + (1 + 2 ^ 3) - 3 + 4);
    }

    /** "in the latest act()": what else is called leaves it. */
    private static void traceOfTheLatest() {
        NoGraveEnemy x = six(3, 2);
        x.act(0, 2, 7);
        due("28 long", x.count(6), 6);
        x.act(0, 0, 7);
        due("28 short", x.count(6), 1);
        due("28 of the latest", x.trace(0), 10);
        due("28 nothing of the one before", x.trace(1), -1);
        x.pass(1);
        x.image();
        x.undo();
        x.tape(0, 0, 1);
        x.parish();
        due("28 still", x.trace(0), 10);
        due("28 still one", x.count(6), 1);
    }

    /** "BAD: k; NOTHING: no such one; CAST." */
    private static void takenFromEndToEnd() {
        NoGraveEnemy x = Due.of(0, 6);
        for (int k : new int[] {-1, 7, TOP, LOW}) {
            due("29 k " + k, x.taken(0, k), -2);
            due("29 BAD ahead of NOTHING, " + k, x.taken(2, k), -2);
        }
        for (int person : new int[] {-1, 2, 6, TOP, LOW}) {
            due("29 person " + person, x.taken(person, 0), -11);
            due("29 NOTHING ahead of CAST, " + person, x.taken(person, 5), -11);
        }
        due("29 k 0", x.taken(0, 0), 0);
        due("29 k 6", x.taken(1, 6), 6);
        due("29 CAST", x.taken(0, 6), -12);
        x.die(1, true);
        due("29 who is DEAD", x.taken(1, 3), 6);
        due("29 nobody", new NoGraveEnemy().taken(0, 0), -11);
    }

    /** "One taken for one of KIND k .., or one under that: its KIND." */
    private static void takenForWhat() {
        String[] under = {"0123456", "14", "25", "36", "4", "5", "6"};
        for (int kind = 0; kind <= 6; kind++) {
            NoGraveEnemy x = Due.of(0, 0, kind);
            for (int k = 0; k <= 6; k++) {
                boolean is = under[k].indexOf('0' + kind) >= 0;
                due("29 KIND " + kind + " for " + k, x.taken(2, k), is ? kind : -12);
            }
        }
    }

    private static void countFromEndToEnd() {
        NoGraveEnemy x = Scenes.full();
        int[] want = {6, 5, 5, 10, 8, 100, 0};
        for (int what = 0; what <= 6; what++) {
            due("30 what " + what, x.count(what), want[what]);
        }
        x.act(5, 2, 1);
        due("30 bodies", x.count(6), 4);
        for (int what : new int[] {-1, 7, TOP, LOW}) {
            due("30 what " + what, x.count(what), -2);
        }
        Due.parish(x, "");
        due("30 PARISHES, six", x.count(1), 6);
        due("30 bytes, none", x.count(5), 0);
    }

    private static void countsOfNothing() {
        NoGraveEnemy x = new NoGraveEnemy();
        x.see(-1, 0, 0, true);
        x.plan(-1, 0);
        x.book(-1, 0, 0);
        x.act(0, 0, 0);
        x.parish();
        x.undo();
        for (int what = 0; what <= 6; what++) {
            due("30 of nothing, " + what, x.count(what), 0);
        }
    }
}
