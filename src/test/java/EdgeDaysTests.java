/** The edges of DAYS, of ON, HANDFULS and ORDERS: promises 11 to 14. */
public final class EdgeDaysTests {
    private static final int TOP = Integer.MAX_VALUE;
    private static final int LOW = Integer.MIN_VALUE;

    private EdgeDaysTests() {
    }

    private static void due(String call, long got, long want) {
        Due.due(call, got, want);
    }

    public static void main(String[] args) {
        passFromEndToEnd();
        theLastDay();
        passIsManyDays();
        nobodyToBury();
        buriedByTheFirst();
        nobodyThrowsTwice();
        oneBehindTheOther();
        hateForTheOneIsNone();
        buriedOnce();
        onFromEndToEnd();
        onEachNumber();
        onGoesOn();
        onOfEachKind();
        beyondTheLastDay();
        ordersBeyondTheLastDay();
        handfulEdges();
        handfulOfOne();
        handfulOfTheMost();
        handfulFirstRow();
        handfulIsNotADay();
        ordersFromEndToEnd();
        ordersByDays();
        ordersOfWhoIsLeft();
        Due.end();
    }

    /** "n DAYS (0 .. 60) go"; "BAD" */
    private static void passFromEndToEnd() {
        NoGraveEnemy x = new NoGraveEnemy();
        due("11 n 0", x.pass(0), 0);
        due("11 n 1", x.pass(1), 1);
        due("11 n 60", x.pass(60), 61);
        for (int n : new int[] {-1, 61, LOW, TOP}) {
            due("11 n " + n, x.pass(n), -2);
        }
        due("11 DAY stays", x.told(0), 61);
    }

    private static NoGraveEnemy onDay9999(int... kinds) {
        NoGraveEnemy x = Due.of(kinds);
        for (int n = 0; n < 166; n++) {
            x.pass(60);
        }
        x.pass(39);
        return x;
    }

    /** "STATE: it would be above 9999" */
    private static void theLastDay() {
        NoGraveEnemy x = Due.of(0, 0);
        for (int n = 1; n <= 165; n++) {
            due("11 DAY", x.pass(60), 60 * n);
        }
        due("11 to 9950", x.pass(50), 9950);
        due("11 50 beyond", x.pass(50), -3);
        due("11 60 beyond", x.pass(60), -3);
        due("11 BAD ahead of STATE", x.pass(61), -2);
        due("11 BAD ahead of STATE, below", x.pass(-1), -2);
        due("11 to 9998", x.pass(48), 9998);
        due("11 2 beyond", x.pass(2), -3);
        x.hate(0, 1, 30);
        x.die(1, true);
        due("11 STATE buries nobody", x.pass(2) + x.told(3), -3);
        due("11 to 9999", x.pass(1), 9999);
        due("11 BURIED on the last", x.told(3), 2);
        due("11 1 beyond", x.pass(1), -3);
        due("11 none", x.pass(0), 9999);
        due("11 DAY", x.told(0), 9999);
    }

    private static void passIsManyDays() {
        NoGraveEnemy x = Due.of(0, 0, 0, 0);
        for (int p = 1; p <= 3; p++) {
            x.hate(0, p, 30);
            x.die(p, true);
        }
        due("11 two DAYS at once", x.pass(2), 2);
        due("11 two BURIED", x.told(3), 6);
        due("11 THROWN twice", x.of(0, 4), 2);
        due("11 60 more", x.pass(60), 62);
        due("11 three BURIED", x.told(3), 14);
        due("11 THROWN no more than that", x.of(0, 4), 3);
        NoGraveEnemy y = Due.of(1, 0);
        y.hate(0, 1, 33);
        y.pass(5);
        y.die(1, true);
        y.pass(2);
        due("11 MILD on DAY 5 and 6", y.told(3), 0);
        y.pass(1);
        due("11 MILD on DAY 7", y.told(3), 2);
    }

    private static void nobodyToBury() {
        NoGraveEnemy x = Due.of(0, 0);
        x.hate(0, 1, 99);
        x.hate(1, 0, 99);
        x.pass(1);
        due("11 nobody DEAD, nobody BURIED", x.told(3), 0);
        due("11 nobody DEAD, nobody throws", x.of(0, 4) + x.of(1, 4), 0);
        due("11 nobody DEAD, HATE stays", x.told(4), 198);
        x.die(0, true);
        x.die(1, true);
        x.pass(60);
        due("11 all DEAD, nobody BURIED", x.told(3), 0);
        due("11 all DEAD, HATE stays", x.told(4), 198);
        NoGraveEnemy y = new NoGraveEnemy();
        due("11 DAYS of nobody", y.pass(60), 60);
    }

    /** "BURIED by its first ENEMY by number" */
    private static void buriedByTheFirst() {
        NoGraveEnemy x = Due.of(0, 0, 0, 0, 0, 0);
        x.hate(0, 3, 29);
        x.hate(1, 3, 30);
        x.hate(2, 3, 99);
        x.hate(5, 3, 99);
        x.die(3, true);
        x.pass(1);
        due("11 BURIED", x.told(3), 8);
        int[] thrown = {0, 1, 0, 0, 0, 0};
        for (int p = 0; p < 6; p++) {
            due("11 THROWN of " + p, x.of(p, 4), thrown[p]);
        }
        due("11 HATE of who threw", x.between(1, 3, 0), 0);
        due("11 HATE of the next", x.between(2, 3, 0), 99);
        NoGraveEnemy y = Due.of(0, 0, 0, 0, 0, 0);
        y.hate(5, 0, 30);
        y.die(0, true);
        y.pass(1);
        due("11 the last for the first", y.of(5, 4), 1);
        due("11 the first is BURIED", y.told(3), 1);
    }

    /** "who has not THROWN on this DAY" */
    private static void nobodyThrowsTwice() {
        NoGraveEnemy x = Due.of(0, 0, 0, 0, 0);
        for (int p = 2; p <= 4; p++) {
            x.hate(0, p, 40);
            x.hate(1, p, 50);
            x.die(p, true);
        }
        x.pass(1);
        due("11 two by two", x.told(3), 12);
        due("11 the first for the first", x.between(0, 2, 0), 0);
        due("11 the second for the second", x.between(1, 3, 0), 0);
        due("11 the first not for the second", x.between(0, 3, 0), 40);
        due("11 each once", x.of(0, 4) * 10 + x.of(1, 4), 11);
        x.pass(1);
        due("11 the third on the next DAY", x.told(3), 28);
        due("11 the first again", x.of(0, 4) * 10 + x.of(1, 4), 21);
        x.pass(1);
        due("11 nobody is left", x.of(0, 4) * 10 + x.of(1, 4), 21);
    }

    /** "one behind the other by number": who comes first takes the first, though then the next has none. */
    private static void oneBehindTheOther() {
        NoGraveEnemy x = Due.of(0, 0, 0, 0);
        x.hate(0, 2, 30);
        x.hate(1, 2, 30);
        x.hate(0, 3, 30);
        x.die(3, true);
        x.die(2, true);
        due("13 both could be at once", x.handful(0), 2);
        due("12 but are not", x.on(1, 0), 4);
        x.pass(1);
        due("11 but are not", x.told(3), 4);
    }

    /** "and its HATE for the one is 0" */
    private static void hateForTheOneIsNone() {
        NoGraveEnemy x = Due.of(0, 0, 0);
        x.hate(0, 1, 40);
        x.hate(0, 2, 41);
        x.hate(1, 0, 42);
        x.hate(2, 1, 43);
        x.hate(2, 0, 44);
        x.hate(1, 2, 45);
        x.die(1, true);
        x.pass(1);
        due("11 for the one", x.between(0, 1, 0), 0);
        due("11 for another", x.between(0, 2, 0), 41);
        due("11 of the one", x.between(1, 0, 0), 42);
        due("11 of another for the one", x.between(2, 1, 0), 43);
        due("11 all HATE", x.told(4), 41 + 42 + 43 + 44 + 45);
    }

    private static void buriedOnce() {
        NoGraveEnemy x = Due.of(0, 0);
        Due.parish(x, "need 0");
        x.die(1, true);
        x.pass(1);
        due("11 HATE 0 for NEED 0", x.told(3), 2);
        due("11 THROWN", x.of(0, 4), 1);
        x.pass(60);
        due("11 who is BURIED is not again", x.of(0, 4), 1);
        x.die(1, false);
        x.pass(1);
        due("11 who is not DEAD is not", x.of(0, 4), 1);
        x.die(1, true);
        x.pass(1);
        due("11 who is DEAD again is", x.of(0, 4), 2);
    }

    /** "ON n DAYS (0 .. 30)"; "NONE; BAD: n" */
    private static void onFromEndToEnd() {
        NoGraveEnemy x = Due.of(0, 0);
        Due.parish(x, "need 50;sting 50 d=9");
        x.hate(0, 1, 9);
        x.die(1, true);
        due("12 on 0", x.on(0, 0), 0);
        due("12 on 9", x.on(9, 0), 0);
        due("12 on 10", x.on(10, 0), 2);
        due("12 on 10: THROWN", x.on(10, 10), 1);
        due("12 on 10: HATE", x.on(10, 21), 0);
        due("12 on 9: HATE", x.on(9, 21), 9);
        due("12 on 30", x.on(30, 0), 2);
        due("12 on 31", x.on(31, 0), -2);
        due("12 on -1", x.on(-1, 0), -2);
        due("12 on 31: THROWN", x.on(31, 10), -2);
        due("12 on -1: HATE", x.on(-1, 21), -2);
        due("12 NONE ahead of BAD", x.on(31, 1), -1);
        due("12 NONE ahead of BAD, below", x.on(-1, 12), -1);
        due("12 wild", x.on(LOW, TOP), -1);
        due("12 wild n", x.on(LOW, 0), -2);
        NoGraveEnemy y = Due.of(1, 0);
        Due.parish(y, "sting 50 d=0;need 50");
        y.hate(0, 1, 1);
        y.pass(21);
        y.die(1, true);
        due("12 on 29: till DAY 50", y.on(29, 0), 0);
        due("12 on 30: till DAY 50", y.on(30, 0), 2);
    }

    /** "what 0 .., 10 and p .., 20 and 6 times p and q HATE of p for q (0, if these are one)" */
    private static void onEachNumber() {
        NoGraveEnemy x = new NoGraveEnemy();
        due("12 nobody is BURIED", x.on(0, 0), 0);
        for (int people = 1; people <= 6; people++) {
            x.one(0, 0);
            for (int other = 0; other < people; other++) {
                x.hate(people - 1, other, 10 * people - 10 + other + 1);
                x.hate(other, people - 1, 10 * other + people);
            }
            if (people == 1 || people >= 5) {
                onEachNumber(x, people);
            }
        }
    }

    private static void onEachNumber(NoGraveEnemy x, int people) {
        for (int what = -30; what <= 70; what++) {
            int p = Math.floorDiv(what - 20, 6);
            int q = Math.floorMod(what - 20, 6);
            int want = -1;
            if (what == 0 || what >= 10 && what < 10 + people) {
                want = 0;
            } else if (p >= 0 && p < people && q < people) {
                want = p == q ? 0 : 10 * p + q + 1;
            }
            due("12 what " + what + " of " + people, x.on(0, what), want);
        }
        for (int what : new int[] {TOP, LOW, LOW + 10, LOW + 19, LOW + 20, TOP - 9}) {
            due("12 what " + what, x.on(0, what), -1);
        }
    }

    /** "goes on from how all is" */
    private static void onGoesOn() {
        NoGraveEnemy x = Due.of(0, 0, 0);
        x.hate(0, 1, 30);
        x.hate(0, 2, 31);
        x.die(1, true);
        x.die(2, true);
        x.pass(1);
        due("12 on 0: BURIED already", x.on(0, 0), 2);
        due("12 on 0: THROWN already", x.on(0, 10), 1);
        due("12 on 0: HATE already", x.on(0, 21), 0);
        due("12 on 1: both", x.on(1, 0), 6);
        due("12 on 1: THROWN twice", x.on(1, 10), 2);
        due("12 on 1: HATE", x.on(1, 22), 0);
        due("11 as it was", x.told(3), 2);
        due("11 as it was, HATE", x.between(0, 2, 0), 31);
    }

    /** The least HATE by which one of this KIND, with v 6 and ROW 4, throws on a DAY. */
    private static void onOfEachKind() {
        int[][] least = {
            {30, 30, 30, 30, 30}, {30, 31, 32, 33, 34}, {30, 60, 30, 60, 30}, {24, 24, 24, 24, 24},
            {42, 43, 44, 45, 46}, {10, 20, 10, 20, 10}, {20, 24, 24, 24, 20}
        };
        for (int kind = 0; kind <= 6; kind++) {
            for (int day = 0; day < 5; day++) {
                onOfKind(kind, day, least[kind][day], 2);
                onOfKind(kind, day, least[kind][day] - 1, 0);
            }
        }
    }

    private static void onOfKind(int kind, int day, int hate, int buried) {
        String call = "12 KIND " + kind + ", DAY " + day + ", HATE " + hate;
        NoGraveEnemy x = new NoGraveEnemy();
        x.one(kind, 6);
        x.one(0, 9);
        x.row(0, 0, 4);
        x.hate(0, 1, hate);
        x.pass(day);
        x.die(1, true);
        due(call, x.on(1, 0), buried);
        due(call + ", THROWN", x.on(1, 10), buried / 2);
        due(call + ", LIES", x.of(1, 6) == 1 ? 1 : 0, buried / 2);
        x.plan(0, 0);
        due(call + ", ENDS", x.ends(0), buried);
        due(call + ", HANDFUL", x.handful(0), buried / 2);
        x.pass(1);
        due(call + ", gone", x.told(3), buried);
    }

    /** "DAYS .. beyond 9999, too" */
    private static void beyondTheLastDay() {
        NoGraveEnemy x = onDay9999(0, 0, 1, 6);
        Due.parish(x, "need 50;sting 50 p=0&d=8");
        x.row(3, 0, 9);
        x.row(3, 1, 1);
        x.die(1, true);
        due("12 till DAY 10008", x.on(9, 0), 0);
        due("12 on DAY 10008", x.on(10, 0), 2);
        due("12 THROWN on DAY 10008", x.on(10, 10), 1);
        due("12 on 30", x.on(30, 0), 2);
        due("3 LIES till DAY 10008", x.of(1, 6), 10);
        x.hate(2, 0, 55);
        due("5 MILD on DAY 9999", x.between(2, 0, 1), 52);
        due("5 MILD to DAY 10001", x.between(2, 0, 3), 3);
        x.hate(3, 0, 41);
        due("5 TOLD on DAY 9999", x.between(3, 0, 2), 0);
        x.row(3, 3, 9);
        due("5 TOLD on DAY 9999 and 10000", x.between(3, 0, 3), 2);
        x.plan(0, 0);
        due("21 ENDS, not on DAY 9999 by d 8", x.ends(0), 0);
        Due.parish(x, "need 50;sting 50 p=0&d=0");
        due("21 ENDS of DAY 9999", x.ends(0), 0);
        x.plan(0, 0);
        due("21 ENDS of DAY 10000", x.ends(0), 2);
        due("11 DAY stays", x.told(0), 9999);
        due("11 nobody is BURIED", x.told(3), 0);
    }

    private static void ordersBeyondTheLastDay() {
        NoGraveEnemy x = onDay9999(0, 0, 0);
        Due.parish(x, "need 50;sting 50 p=0&q=1&d=9;sting 50 p=0&q=2&d=0");
        due("14 on DAY 9999", x.orders(1), 1);
        due("14 on DAY 9999 and 10000", x.orders(2), 1);
        due("14 on DAY 10001", x.orders(3), 0);
        due("10 LONGEST from DAY 9999 on", x.told(7), 2);
    }

    private static void handfulEdges() {
        NoGraveEnemy x = Due.of(0, 0, 0, 0, 0, 0);
        Due.parish(x, "need 0");
        due("13 nobody DEAD", x.handful(0), 0);
        due("13 for who is not DEAD", x.handful(10), -5);
        for (int p = 0; p < 6; p++) {
            x.die(p, true);
        }
        due("13 all DEAD", x.handful(0), 0);
        for (int p = 0; p < 6; p++) {
            due("13 all DEAD, for " + p, x.handful(10 + p), -5);
        }
        x.die(5, false);
        due("13 one left", x.handful(0), 1);
        due("13 the last for the first", x.handful(10), 5);
        due("13 not for the second", x.handful(11), -5);
        x.die(4, false);
        x.die(3, false);
        due("13 three for three", x.handful(0), 3);
        for (int p = 0; p < 3; p++) {
            due("13 in their order, " + p, x.handful(10 + p), 3 + p);
        }
        due("13 person 6", x.handful(16), -1);
        due("13 what 9", x.handful(9), -1);
        due("13 what 1", x.handful(1), -1);
        due("13 person 5", x.handful(15), -5);
    }

    private static void handfulOfOne() {
        NoGraveEnemy x = Due.of(0, 0, 0, 0, 0, 0);
        Due.parish(x, "need 0");
        for (int p = 0; p < 6; p++) {
            x.die(p, true);
            due("13 one ENEMY for one, of five", x.handful(0), 1);
            due("13 the first of five", x.handful(10 + p), p == 0 ? 1 : 0);
            x.die(p, false);
        }
    }

    /** "that by which most have one" */
    private static void handfulOfTheMost() {
        NoGraveEnemy x = Due.of(0, 0, 0, 0, 0, 0);
        x.hate(3, 0, 30);
        x.hate(4, 0, 30);
        x.hate(3, 1, 30);
        x.hate(5, 1, 30);
        x.hate(3, 2, 30);
        for (int p = 0; p < 3; p++) {
            x.die(p, true);
        }
        due("13 all three", x.handful(0), 3);
        due("13 the first by another", x.handful(10), 4);
        due("13 the second by another", x.handful(11), 5);
        due("13 the third by the only one", x.handful(12), 3);
        x.hate(4, 0, 0);
        due("13 two of three", x.handful(0), 2);
        due("13 the first then", x.handful(10), 3);
        due("13 the second then", x.handful(11), 5);
        due("13 the third then", x.handful(12), -5);
    }

    /** "(of several the first as a row of all PEOPLE, none .. being 9)": none comes behind all others. */
    private static void handfulFirstRow() {
        NoGraveEnemy x = Due.of(0, 0, 0, 0, 0, 0);
        x.hate(5, 1, 30);
        x.hate(5, 3, 30);
        x.die(1, true);
        x.die(3, true);
        due("13 one of two", x.handful(0), 1);
        due("13 the first has one", x.handful(11), 5);
        due("13 the second has none", x.handful(13), -5);
        x.hate(0, 1, 30);
        x.hate(0, 3, 30);
        due("13 both", x.handful(0), 2);
        due("13 the lesser for the first", x.handful(11), 0);
        due("13 the greater for the second", x.handful(13), 5);
        NoGraveEnemy y = Due.of(0, 0, 0, 0, 0);
        y.hate(3, 0, 30);
        y.hate(3, 1, 30);
        y.hate(4, 1, 30);
        y.hate(4, 2, 30);
        for (int p = 0; p < 3; p++) {
            y.die(p, true);
        }
        due("13 two of a chain of three", y.handful(0), 2);
        due("13 the chain's first", y.handful(10), 3);
        due("13 the chain's second", y.handful(11), 4);
        due("13 the chain's third", y.handful(12), -5);
    }

    private static void handfulIsNotADay() {
        NoGraveEnemy x = Due.of(0, 0, 0);
        x.hate(0, 1, 30);
        x.hate(0, 2, 30);
        x.die(1, true);
        x.die(2, true);
        x.pass(1);
        due("13 who is BURIED needs none", x.handful(11), -5);
        due("13 who threw yesterday throws again", x.handful(12), 0);
        due("13 one", x.handful(0), 1);
        x.die(0, true);
        due("13 the DEAD do not throw", x.handful(0), 0);
    }

    /** "ORDERS of n (0 .. 6)"; "BAD" */
    private static void ordersFromEndToEnd() {
        NoGraveEnemy x = new NoGraveEnemy();
        due("14 none of nobody", x.orders(0), 1);
        for (int n = 1; n <= 6; n++) {
            due("14 of nobody", x.orders(n), 0);
        }
        for (int n : new int[] {-1, 7, TOP, LOW}) {
            due("14 n " + n, x.orders(n), -2);
        }
        for (int p = 0; p < 6; p++) {
            x.one(0, 0);
        }
        due("14 none, nobody an ENEMY", x.orders(0), 1);
        due("14 one, nobody an ENEMY", x.orders(1), 0);
        Due.parish(x, "need 0");
        int[] rows = {1, 6, 30, 120, 360, 720, 0};
        for (int n = 0; n <= 6; n++) {
            due("14 of all, " + n, x.orders(n), rows[n]);
        }
        x.die(5, true);
        int[] less = {1, 5, 20, 60, 120, 0, 0};
        for (int n = 0; n <= 6; n++) {
            due("14 of all but one, " + n, x.orders(n), less[n]);
        }
    }

    /** "on this DAY, the next one, and so on" */
    private static void ordersByDays() {
        NoGraveEnemy x = Due.of(0, 0, 0, 0, 0, 0);
        Due.parish(x, "need 50;sting 50 d<4");
        int[] rows = {1, 6, 30, 120, 360, 0, 0};
        for (int n = 0; n <= 6; n++) {
            due("14 by four DAYS, " + n, x.orders(n), rows[n]);
        }
        Due.parish(x, "need 50;sting 50 d=0&q=2;sting 50 d=1&q=0;sting 50 d=2&q=5;sting 50 d=3&q=1");
        for (int n = 0; n <= 6; n++) {
            due("14 each on its DAY, " + n, x.orders(n), n <= 4 ? 1 : 0);
        }
        x.pass(1);
        due("14 each on its DAY, from the second", x.orders(3), 1);
        due("14 each on its DAY, no more", x.orders(4), 0);
        Due.parish(x, "need 50;sting 50 d=1&q=4;sting 50 d=2&q=4;sting 50 d=2&q=3");
        due("14 nobody twice", x.orders(2), 1);
        Due.parish(x, "need 50;sting 50 d=9;sting 50 d=0");
        x.pass(8);
        due("14 d 9 and 0", x.orders(2), 30);
        due("14 not d 1", x.orders(3), 0);
    }

    /** "an ENEMY on its DAY who is not DEAD now and has not died ahead of it in the row (not the one itself)" */
    private static void ordersOfWhoIsLeft() {
        NoGraveEnemy x = Due.of(0, 0, 0);
        x.hate(0, 1, 30);
        x.hate(0, 2, 30);
        x.hate(1, 0, 30);
        due("14 one of three", x.orders(1), 3);
        due("14 two of three", x.orders(2), 3);
        due("14 three of three", x.orders(3), 0);
        x.hate(2, 0, 30);
        due("14 two of three, two ENEMIES of one", x.orders(2), 4);
        x.die(0, true);
        due("14 none without the ENEMY", x.orders(1), 0);
        due("14 none at all", x.orders(0), 1);
        x.hate(1, 2, 30);
        due("14 one for the other", x.orders(1), 1);
        x.hate(2, 1, 30);
        due("14 each for the other", x.orders(1), 2);
        due("14 not both", x.orders(2), 0);
        due("14 HATE as now, though one died", x.told(4), 180);
    }
}
