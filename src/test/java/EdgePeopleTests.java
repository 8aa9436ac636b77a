/** The edges of PEOPLE, of HATE and SPITE, of who is an ENEMY, of who is DEAD: promises 1 to 7 and 10. */
public final class EdgePeopleTests {
    private EdgePeopleTests() {
    }

    private static void due(String call, long got, long want) {
        Due.due(call, got, want);
    }

    public static void main(String[] args) {
        aNewObject();
        objectsShareNothing();
        kindsAndNumbers();
        aNewOneIsBare();
        eachHateIsItsOwn();
        hateFromEndToEnd();
        needOrMore();
        needFromEndToEnd();
        whoIsDeadIsNoEnemy();
        enemiesAreBits();
        mildByDays();
        sisterHalves();
        sternAdds();
        friendLessTwice();
        hiredByNumbers();
        toldByDays();
        rowsFromEndToEnd();
        dyingTwice();
        backFromTheGrave();
        liesFromEndToEnd();
        forHowLongFromEndToEnd();
        forHowLongHasNoGap();
        hateOfAll();
        lonelyEdges();
        keepEdges();
        keepLeastOfSeveral();
        longestEdges();
        callsToTheLast();
        Due.end();
    }

    /** "Nobody, no PARISH", and what is so "at first". */
    private static void aNewObject() {
        NoGraveEnemy x = new NoGraveEnemy();
        int[] told = {0, 30, 0, 0, 0, 0, 0, 0};
        for (int what = 0; what <= 7; what++) {
            due("1 told " + what, x.told(what), told[what]);
        }
        for (int what = 0; what <= 6; what++) {
            due("1 count " + what, x.count(what), 0);
            due("1 of " + what, x.of(0, what), -1);
        }
        for (int tape = 0; tape <= 5; tape++) {
            due("1 TAPE " + tape + " holds nothing", x.item(tape, 0, 0), -11);
        }
        due("1 no IMAGE", x.undo(), -3);
        due("1 THE TEXT is empty", x.parish(), -10);
    }

    private static void objectsShareNothing() {
        NoGraveEnemy x = new NoGraveEnemy();
        NoGraveEnemy y = Scenes.some();
        String first = Sight.now(new NoGraveEnemy());
        due("1 another object's", Sight.now(x).equals(first) ? 1 : 0, 1);
        due("1 another object's IMAGE", x.undo(), -3);
        due("1 another object's PEOPLE", y.count(0), 4);
    }

    private static void kindsAndNumbers() {
        for (int kind = 0; kind <= 6; kind++) {
            NoGraveEnemy x = new NoGraveEnemy();
            for (int n = 0; n <= 5; n++) {
                due("2 number " + n, x.one(kind, n == 5 ? 9 : n), n);
                due("2 KIND " + kind, x.of(n, 0), kind);
                due("2 v", x.of(n, 1), n == 5 ? 9 : n);
                due("2 not yet there", x.of(n + 1, 0), -1);
            }
            due("2 a seventh", x.one(kind, 0), -4);
            for (int wild : new int[] {Integer.MIN_VALUE, -1, 10, 11, Integer.MAX_VALUE}) {
                due("2 v " + wild, new NoGraveEnemy().one(kind, wild), -2);
            }
            due("2 six", x.count(0), 6);
        }
        for (int kind : new int[] {Integer.MIN_VALUE, -2, -1, 7, 8, Integer.MAX_VALUE}) {
            due("2 kind " + kind, new NoGraveEnemy().one(kind, 0), -1);
            due("2 NONE ahead of BAD, kind " + kind, new NoGraveEnemy().one(kind, 10), -1);
        }
    }

    private static void aNewOneIsBare() {
        NoGraveEnemy x = Due.of(0, 0);
        x.hate(0, 1, 60);
        x.die(1, true);
        x.pass(1);
        x.one(6, 9);
        for (int what = 2; what <= 4; what++) {
            due("2 a new one's " + what, x.of(2, what), 0);
        }
        due("2 HATE of a new one", x.between(2, 0, 0) + x.between(2, 1, 0), 0);
        due("2 HATE for a new one", x.between(0, 2, 0) + x.between(1, 2, 0), 0);
        for (int part = 0; part <= 3; part++) {
            due("2 ROW of a new one", x.row(2, part, 0), 0);
        }
    }

    private static int number(int one, int other) {
        return 3 * (6 * one + other) % 100;
    }

    private static void eachHateIsItsOwn() {
        NoGraveEnemy x = Due.of(0, 0, 0, 0, 0, 0);
        for (int one = 0; one < 6; one++) {
            for (int other = 0; other < 6; other++) {
                due("4 was", x.hate(one, other, number(one, other)), one == other ? -2 : 0);
            }
        }
        for (int one = 0; one < 6; one++) {
            for (int other = 0; other < 6; other++) {
                int want = one == other ? -10002 : number(one, other);
                due("4 HATE of " + one + " for " + other, x.between(one, other, 0), want);
            }
        }
    }

    private static void hateFromEndToEnd() {
        NoGraveEnemy x = Due.of(0, 0);
        due("4 n 0", x.hate(0, 1, 0), 0);
        due("4 n 99", x.hate(0, 1, 99), 0);
        due("4 n 100", x.hate(0, 1, 100), -2);
        due("4 n -1", x.hate(0, 1, -1), -2);
        due("4 99 stays", x.between(0, 1, 0), 99);
        due("4 n 0 again", x.hate(0, 1, 0), 99);
        due("4 n 98", x.hate(0, 1, 98), 0);
        due("4 n 1", x.hate(0, 1, 1), 98);
    }

    /** "its SPITE is NEED or more"; NEED is 30 without a PARISH. */
    private static void needOrMore() {
        NoGraveEnemy x = Due.of(0, 0);
        int[] hates = {0, 29, 30, 31, 99};
        for (int hate : hates) {
            x.hate(0, 1, hate);
            int is = hate >= 30 ? 1 : 0;
            due("5 ENEMY by " + hate, x.between(0, 1, 2), is);
            due("3 ENEMIES by " + hate, x.of(1, 5), is);
            due("5 FOR HOW LONG by " + hate, x.between(0, 1, 3), 30 * is);
        }
    }

    private static void needFromEndToEnd() {
        NoGraveEnemy x = Due.of(0, 0, 0);
        Due.parish(x, "need 0");
        due("5 SPITE 0 for NEED 0", x.between(0, 1, 2), 1);
        due("5 nobody is its own ENEMY", x.of(0, 5), 6);
        Due.parish(x, "need 0;balm 1 p=0");
        due("5 SPITE below 0", x.between(0, 1, 1), -1);
        due("5 SPITE below 0 for NEED 0", x.between(0, 1, 2), 0);
        due("5 SPITE 0 of another", x.between(1, 0, 2), 1);
        Due.parish(x, "need 99");
        x.hate(0, 1, 99);
        x.hate(1, 0, 98);
        due("5 NEED 99", x.told(1), 99);
        due("5 SPITE 99 for NEED 99", x.between(0, 1, 2), 1);
        due("5 SPITE 98 for NEED 99", x.between(1, 0, 2), 0);
        Due.parish(x, "balm 99 p=0;balm 99 p=0;balm 99 p=0;balm 99 p=0;balm 99 p=0;balm 99 p=0;balm 99 p=0");
        due("5 far below 0", x.between(0, 2, 1), -693);
        Due.parish(x, "sting 99 p=0;sting 99 p=0;sting 99 p=0;sting 99 p=0;sting 99 p=0;sting 99 p=0");
        due("5 far above 99", x.between(0, 1, 1), 99 + 594);
    }

    private static void whoIsDeadIsNoEnemy() {
        NoGraveEnemy x = Due.of(0, 0);
        x.hate(0, 1, 99);
        x.die(1, true);
        due("5 ENEMY of who is DEAD", x.between(0, 1, 2), 1);
        x.die(0, true);
        due("5 the DEAD are nobody's ENEMY", x.between(0, 1, 2), 0);
        due("5 the DEAD for no DAY", x.between(0, 1, 3), 0);
        due("3 ENEMIES without the DEAD", x.of(1, 5), 0);
        due("5 the DEAD have SPITE", x.between(0, 1, 1), 99);
        x.die(0, false);
        due("5 ENEMY again", x.between(0, 1, 2), 1);
    }

    private static void enemiesAreBits() {
        NoGraveEnemy x = Due.of(0, 0, 0, 0, 0, 0);
        due("3 no ENEMIES", x.of(0, 5), 0);
        x.hate(5, 0, 30);
        due("3 the last one's bit", x.of(0, 5), 32);
        x.hate(0, 5, 30);
        due("3 the first one's bit", x.of(5, 5), 1);
        Due.parish(x, "need 0");
        for (int p = 0; p < 6; p++) {
            due("3 all others", x.of(p, 5), 63 & ~(1 << p));
        }
    }

    /** One of this KIND with this v, who is number 1, hates 0 by hate, behind days. */
    private static int spite(int kind, int v, int hate, int days) {
        NoGraveEnemy x = new NoGraveEnemy();
        x.one(0, 5);
        x.one(kind, v);
        x.one(0, 5);
        x.hate(1, 0, hate);
        x.pass(days);
        return x.between(1, 0, 1);
    }

    /** "SUM less DAY modulo 7" */
    private static void mildByDays() {
        int[] less = {0, 1, 2, 3, 4, 5, 6, 0, 1};
        for (int day = 0; day <= 8; day++) {
            due("5 MILD on DAY " + day, spite(1, 9, 50, day), 50 - less[day]);
            due("5 FRIEND on DAY " + day, spite(4, 0, 50, day), 50 - less[day]);
        }
        due("5 MILD on DAY 13", spite(1, 0, 0, 13), -6);
        due("5 MILD on DAY 14", spite(1, 0, 0, 14), 0);
    }

    /** "the half (cut toward 0) of that, if DAY is odd" */
    private static void sisterHalves() {
        int[] hates = {0, 1, 2, 3, 98, 99};
        for (int hate : hates) {
            for (int kind = 2; kind <= 5; kind += 3) {
                due("5 on DAY 0, " + hate, spite(kind, 9, hate, 0), hate);
                due("5 on DAY 1, " + hate, spite(kind, 9, hate, 1), hate / 2);
                due("5 on DAY 2, " + hate, spite(kind, 9, hate, 2), hate);
            }
        }
        NoGraveEnemy x = Due.of(2, 5, 0);
        x.pass(1);
        int[] sums = {-1, -2, -3, -99};
        int[] halves = {0, -1, -1, -49};
        for (int n = 0; n < 4; n++) {
            Due.parish(x, "balm " + -sums[n] + " p<9");
            due("5 SISTER, half of " + sums[n], x.between(0, 2, 1), halves[n]);
            due("5 HIRED, half of " + sums[n], x.between(1, 0, 1), halves[n]);
            due("5 HIRED, half of " + sums[n] + " and 20", x.between(1, 2, 1), halves[n] + 20);
        }
    }

    private static void sternAdds() {
        due("5 STERN, v 0", spite(3, 0, 40, 1), 40);
        due("5 STERN, v 9", spite(3, 9, 40, 2), 49);
        due("5 STERN, v 9, HATE 99", spite(3, 9, 99, 7), 108);
    }

    private static void friendLessTwice() {
        due("5 FRIEND, v 0", spite(4, 0, 40, 0), 40);
        due("5 FRIEND, v 9", spite(4, 9, 40, 0), 22);
        due("5 FRIEND, v 9, DAY 6, below 0", spite(4, 9, 0, 6), -24);
    }

    /** "and 20, if the number of the other is greater than its own" */
    private static void hiredByNumbers() {
        NoGraveEnemy x = Due.of(5, 5, 5, 5, 5, 5);
        for (int one = 0; one < 6; one++) {
            for (int other = 0; other < 6; other++) {
                if (one != other) {
                    due("5 HIRED " + one + " for " + other, x.between(one, other, 1), other > one ? 20 : 0);
                }
            }
        }
        x.hate(0, 1, 99);
        x.pass(1);
        due("5 HIRED, 20 whole on an odd DAY", x.between(0, 1, 1), 69);
    }

    /** "its ROW .. at DAY modulo 4 more" */
    private static void toldByDays() {
        NoGraveEnemy x = new NoGraveEnemy();
        x.one(6, 9);
        x.one(6, 0);
        x.hate(0, 1, 10);
        int[] row = {9, 0, 5, 7};
        for (int part = 0; part <= 3; part++) {
            x.row(0, part, row[part]);
        }
        for (int day = 0; day <= 9; day++) {
            due("5 TOLD on DAY " + day, x.between(0, 1, 1), 19 + row[day % 4]);
            due("5 another's ROW on DAY " + day, x.between(1, 0, 1), 0);
            x.pass(1);
        }
    }

    private static void rowsFromEndToEnd() {
        NoGraveEnemy x = Due.of(0, 0, 0, 0, 6, 6);
        for (int p = 4; p <= 5; p++) {
            for (int part = 0; part <= 3; part++) {
                due("7 at first", x.row(p, part, 9), 0);
                due("7 n 10", x.row(p, part, 10), -2);
                due("7 n -1", x.row(p, part, -1), -2);
                due("7 9 was taken", x.row(p, part, p == 4 ? part : 9 - part), 9);
            }
            for (int part : new int[] {Integer.MIN_VALUE, -1, 4, 5, Integer.MAX_VALUE}) {
                due("7 part " + part, x.row(p, part, 0), -1);
                due("7 NONE ahead of BAD, part " + part, x.row(p, part, 10), -1);
            }
        }
        for (int part = 0; part <= 3; part++) {
            due("7 each its own", x.row(4, part, 0), part);
            due("7 each its own, another", x.row(5, part, 0), 9 - part);
        }
        for (int kind = 0; kind <= 5; kind++) {
            due("7 STATE of KIND " + kind, Due.of(kind).row(0, 0, 0), -3);
        }
    }

    private static void dyingTwice() {
        NoGraveEnemy x = Due.of(0, 0, 0, 0, 0, 0);
        due("6 who is not DEAD is not", x.die(5, false), 0);
        due("6 not before", x.die(5, true), 0);
        due("6 before", x.die(5, true), 1);
        due("6 the last one's bit", x.told(2), 32);
        due("6 only that", x.of(4, 2), 0);
        due("6 the first", x.die(0, true), 0);
        due("6 both bits", x.told(2), 33);
        due("6 back", x.die(5, false), 1);
        due("6 one bit", x.told(2), 1);
    }

    /** "or not (then not BURIED)" */
    private static void backFromTheGrave() {
        NoGraveEnemy x = Due.of(0, 0, 0);
        x.hate(0, 2, 30);
        x.hate(0, 1, 30);
        x.die(1, true);
        x.die(2, true);
        x.pass(2);
        due("6 both BURIED", x.told(3), 6);
        due("6 DEAD again", x.die(2, true), 1);
        due("6 and BURIED still", x.told(3), 6);
        due("6 back", x.die(2, false), 1);
        due("6 the other is BURIED still", x.told(3), 2);
        due("6 THROWN stays", x.of(0, 4), 2);
        due("6 HATE stays 0", x.between(0, 2, 0), 0);
        x.die(2, true);
        due("6 not BURIED by dying", x.of(2, 3), 0);
        x.hate(0, 2, 30);
        x.pass(1);
        due("6 BURIED again", x.told(3), 6);
        due("6 THROWN once more", x.of(0, 4), 3);
    }

    /** "the fewest DAYS (0 .. 30) behind which it is BURIED (-5: not by then)" */
    private static void liesFromEndToEnd() {
        NoGraveEnemy x = Due.of(1, 0);
        Due.parish(x, "sting 50 d=0;need 50");
        x.hate(0, 1, 1);
        x.pass(20);
        due("3 LIES of who is not DEAD", x.of(1, 6), -5);
        x.die(1, true);
        due("3 LIES till DAY 50: 31 DAYS", x.of(1, 6), -5);
        x.pass(1);
        due("3 LIES till DAY 50: 30 DAYS", x.of(1, 6), 30);
        x.pass(28);
        due("3 LIES till DAY 50: 2 DAYS", x.of(1, 6), 2);
        x.pass(1);
        due("3 LIES till DAY 50: 1 DAY", x.of(1, 6), 1);
        x.pass(1);
        due("3 LIES no longer", x.of(1, 6), 0);
        x.die(1, false);
        due("3 LIES of who is back", x.of(1, 6), -5);
        NoGraveEnemy y = Due.of(0, 0, 0);
        y.hate(0, 1, 30);
        y.hate(0, 2, 30);
        y.die(1, true);
        y.die(2, true);
        due("3 LIES, the first", y.of(1, 6), 1);
        due("3 LIES, who waits for it", y.of(2, 6), 2);
    }

    /** "(30 at most)" */
    private static void forHowLongFromEndToEnd() {
        NoGraveEnemy x = Due.of(1, 0);
        x.hate(0, 1, 29);
        due("5 for no DAY", x.between(0, 1, 3), 0);
        x.hate(0, 1, 30);
        due("5 for one DAY", x.between(0, 1, 3), 1);
        x.hate(0, 1, 35);
        due("5 for six", x.between(0, 1, 3), 6);
        x.hate(0, 1, 36);
        due("5 for all", x.between(0, 1, 3), 30);
        x.pass(60);
        due("5 for all, later", x.between(0, 1, 3), 30);
        NoGraveEnemy y = Due.of(1, 0);
        Due.parish(y, "need 50;sting 60 d<9;sting 55 d=9");
        y.pass(38);
        due("5 from DAY 38 to 68: 31", y.between(0, 1, 3), 30);
        y.pass(1);
        due("5 from DAY 39 to 68: 30", y.between(0, 1, 3), 30);
        y.pass(1);
        due("5 from DAY 40 to 68: 29", y.between(0, 1, 3), 29);
    }

    /** "one behind the other": a DAY without ends it. */
    private static void forHowLongHasNoGap() {
        NoGraveEnemy x = Due.of(2, 0);
        x.hate(0, 1, 40);
        due("5 today, not tomorrow", x.between(0, 1, 3), 1);
        x.pass(1);
        due("5 not today", x.between(0, 1, 3), 0);
        x.hate(0, 1, 60);
        due("5 on odd DAYS too", x.between(0, 1, 3), 30);
        NoGraveEnemy y = Due.of(0, 0);
        Due.parish(y, "need 50;sting 50 !d=4");
        due("5 to DAY 4", y.between(0, 1, 3), 4);
        y.pass(4);
        due("5 on DAY 4", y.between(0, 1, 3), 0);
        y.pass(1);
        due("5 from DAY 5 to 13", y.between(0, 1, 3), 9);
    }

    private static void hateOfAll() {
        NoGraveEnemy x = Due.of(0, 0, 0, 0, 0, 0);
        due("10 no HATE", x.told(4), 0);
        x.hate(5, 4, 1);
        due("10 the last pair's", x.told(4), 1);
        for (int one = 0; one < 6; one++) {
            for (int other = 0; other < 6; other++) {
                x.hate(one, other, 99);
            }
        }
        due("10 all there is", x.told(4), 30 * 99);
        x.die(0, true);
        due("10 of the DEAD too", x.told(4), 30 * 99);
        x.pass(1);
        due("10 less who threw", x.told(4), 29 * 99);
    }

    private static void lonelyEdges() {
        NoGraveEnemy x = Due.of(0);
        due("10 one alone is LONELY", x.told(5), 1);
        x.die(0, true);
        due("10 who is DEAD is not", x.told(5), 0);
        NoGraveEnemy y = Due.of(0, 0, 0, 0, 0, 0);
        due("10 all six", y.told(5), 63);
        y.hate(0, 5, 30);
        due("10 but the last", y.told(5), 31);
        y.hate(5, 0, 30);
        due("10 nor the first", y.told(5), 30);
        y.die(5, true);
        due("10 ENEMIES who are DEAD are none", y.told(5), 31);
        y.hate(1, 0, 29);
        due("10 29 is too little", y.told(5), 31);
    }

    /** "the set with the fewest who are not DEAD .. in which everybody, not DEAD, has an ENEMY today (-5: none)" */
    private static void keepEdges() {
        NoGraveEnemy x = new NoGraveEnemy();
        due("10 KEEP of nobody", x.told(6), 0);
        x.one(0, 0);
        due("10 no KEEP of one alone", x.told(6), -5);
        x.one(0, 0);
        x.hate(0, 1, 30);
        due("10 no KEEP, one has no ENEMY", x.told(6), -5);
        x.hate(1, 0, 30);
        due("10 KEEP of both", x.told(6), 3);
        x.die(0, true);
        due("10 no KEEP of the other", x.told(6), -5);
        x.die(1, true);
        due("10 KEEP, all DEAD", x.told(6), 0);
        NoGraveEnemy y = Due.of(0, 0, 0, 0, 0, 0);
        for (int p = 0; p < 6; p++) {
            y.hate(p, (p + 1) % 6, 30);
        }
        due("10 KEEP of all six", y.told(6), 63);
        y.die(3, true);
        due("10 no KEEP with a gap", y.told(6), -5);
        y.hate(2, 4, 30);
        due("10 KEEP without who is DEAD", y.told(6), 63 - 8);
    }

    /** "of several the least as bits" */
    private static void keepLeastOfSeveral() {
        NoGraveEnemy x = Due.of(0, 0, 0, 0, 0, 0);
        Due.parish(x, "need 0");
        due("10 any two: the first two", x.told(6), 3);
        x.die(0, true);
        due("10 any two, the first DEAD", x.told(6), 6);
        Due.parish(x, "need 1;sting 1 p=5;sting 1 p>2&q=5");
        x.die(0, false);
        due("10 the last, and the first of two", x.told(6), 8 + 32);
        Due.parish(x, "need 1;sting 1 p=0&q>0;sting 1 p=1&q<1|p=5&q=0;sting 1 p=2&q<3|p=3&q>2");
        due("10 two rather than a lesser three", x.told(6), 3);
        Due.parish(x, "need 1;sting 1 p=5&q<5;sting 1 p=0&q<3;sting 1 p=1&q>2;sting 1 p=2&q=0");
        due("10 the fewest, though not the least bits", x.told(6), 34);
    }

    private static void longestEdges() {
        NoGraveEnemy x = Due.of(0);
        Due.parish(x, "need 0");
        due("10 LONGEST of one alone", x.told(7), 0);
        for (int people = 2; people <= 6; people++) {
            x.one(0, 0);
            due("10 LONGEST of " + people, x.told(7), people - 1);
        }
        Due.parish(x, "need 50;sting 50 d<4");
        due("10 LONGEST by DAYS", x.told(7), 4);
        x.pass(3);
        due("10 LONGEST on DAY 3", x.told(7), 1);
        x.pass(1);
        due("10 LONGEST on DAY 4", x.told(7), 0);
        x.pass(5);
        due("10 a gap is no row", x.told(7), 0);
        x.pass(1);
        due("10 LONGEST on DAY 10", x.told(7), 4);
    }

    /** "for at most 512 calls": the last of them is answered too. */
    private static void callsToTheLast() {
        NoGraveEnemy x = new NoGraveEnemy();
        for (int p = 0; p < 6; p++) {
            x.one(p, 9 - p);
        }
        for (int n = 0; n < 252; n++) {
            due("call " + (7 + 2 * n), x.hate(n % 6, (n + 1) % 6, n % 100), n < 6 ? 0 : (n - 6) % 100);
            due("call " + (8 + 2 * n), x.between(n % 6, (n + 1) % 6, 0), n % 100);
        }
        due("call 511", x.pass(60), 60);
        due("call 512", x.told(0), 60);
    }
}
