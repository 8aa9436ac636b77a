/** The edges of SEEN, of HATES, CAN, ODDS and MEAN: promises 15 to 19. */
public final class EdgeSeenTests {
    private static final long NO = NoGraveEnemy.NO;
    private static final int TOP = Integer.MAX_VALUE;
    private static final int LOW = Integer.MIN_VALUE;

    private EdgeSeenTests() {
    }

    private static void due(String call, long got, long want) {
        Due.due(call, got, want);
    }

    public static void main(String[] args) {
        seeFromEndToEnd();
        seeEachNumber();
        seeNone();
        seenDays();
        seenBeyondTheLastDay();
        hatesFromEndToEnd();
        hatesLeast();
        hatesOfBoth();
        seenOfEachPair();
        hatesAsNow();
        hatesOfTheDead();
        canFromEndToEnd();
        canOfTheHateOfIt();
        canByDays();
        canByKind();
        oddsFromEndToEnd();
        oddsOfOneEnemy();
        oddsOfTheDead();
        oddsAnswersNo();
        meanFromEndToEnd();
        meanInLowestTerms();
        Due.end();
    }

    /** "DAYS n (0 .. 20)"; "(5 rows at most)"; "NONE; BAD: one is both, n; FULL: 5" */
    private static void seeFromEndToEnd() {
        NoGraveEnemy x = Due.of(0, 0);
        due("15 n -1", x.see(0, 1, -1, true), -2);
        due("15 n 21", x.see(0, 1, 21, true), -2);
        due("15 n wild", x.see(0, 1, TOP, true), -2);
        due("15 one is both", x.see(1, 1, 0, true), -2);
        due("15 NONE ahead of BAD, n", x.see(2, 1, 21, true), -1);
        due("15 NONE ahead of BAD, both", x.see(2, 2, 0, true), -1);
        due("15 none so far", x.count(2), 0);
        due("15 n 0", x.see(0, 1, 0, true), 1);
        due("15 n 20", x.see(0, 1, 20, true), 2);
        due("15 the same once more", x.see(0, 1, 20, true), 3);
        due("15 the fourth", x.see(1, 0, 1, false), 4);
        due("15 the fifth", x.see(1, 0, 19, false), 5);
        due("15 the sixth", x.see(1, 0, 0, false), -4);
        due("15 NONE ahead of FULL", x.see(0, 2, 0, true), -1);
        due("15 BAD ahead of FULL", x.see(0, 0, 0, true), -2);
        due("15 BAD ahead of FULL, n", x.see(0, 1, -1, true), -2);
        due("15 five", x.count(2), 5);
    }

    private static void seeEachNumber() {
        for (int one = -3; one <= 7; one++) {
            for (int other = -3; other <= 7; other++) {
                NoGraveEnemy x = Due.of(0, 0, 0, 0, 0, 0);
                boolean isThere = one >= 0 && one <= 5 && other >= 0 && other <= 5;
                int want = one == -1 ? 0 : !isThere ? -1 : one == other ? -2 : 1;
                due("15 see " + one + " " + other, x.see(one, other, 0, true), want);
                due("15 count", x.count(2), Math.max(want, 0));
            }
        }
        NoGraveEnemy x = Due.of(0, 0);
        due("15 wild", x.see(TOP, LOW, 0, true), -1);
        due("15 wild below", x.see(LOW, 0, 0, true), -1);
        due("15 wild other", x.see(0, LOW, 0, true), -1);
    }

    /** "(one -1: none then, 0, whatever the others are)" */
    private static void seeNone() {
        NoGraveEnemy x = Due.of(0, 0);
        due("15 none of none", x.see(-1, 99, -7, false), 0);
        for (int n = 1; n <= 5; n++) {
            x.see(0, 1, 0, false);
        }
        due("15 SEEN", x.hates(0, 1, 0), 30);
        due("15 none, though FULL", x.see(-1, -1, 21, true), 0);
        due("15 none then", x.count(2), 0);
        due("15 nothing SEEN any longer", x.hates(0, 1, 0), 100);
        due("15 from the first on", x.see(1, 0, 0, true), 1);
        due("15 what was is not", x.hates(0, 1, 0), 100);
        due("15 what is, is", x.hates(1, 0, 0), 70);
    }

    private static void seenDays() {
        NoGraveEnemy x = Due.of(0, 0);
        Due.parish(x, "need 50;sting 50 d=9");
        int[] days = {0, 8, 9, 10, 18, 19, 20};
        int[] many = {50, 50, 100, 50, 50, 100, 50};
        for (int n = 0; n < days.length; n++) {
            x.see(-1, 0, 0, true);
            x.see(0, 1, days[n], true);
            due("16 SEEN behind " + days[n], x.hates(0, 1, 0), many[n]);
            x.see(-1, 0, 0, true);
            x.see(0, 1, days[n], false);
            due("16 not SEEN behind " + days[n], x.hates(0, 1, 0), 100 - many[n]);
        }
    }

    private static void seenBeyondTheLastDay() {
        NoGraveEnemy x = Due.of(0, 0);
        for (int n = 0; n < 166; n++) {
            x.pass(60);
        }
        x.pass(39);
        Due.parish(x, "need 50;sting 50 d=8");
        x.see(0, 1, 19, true);
        due("16 DAY 10018", x.hates(0, 1, 0), 100);
        x.see(0, 1, 20, true);
        due("16 DAY 10019", x.hates(0, 1, 0), 50);
    }

    /** "how many numbers (0 .. 99) there are" */
    private static void hatesFromEndToEnd() {
        NoGraveEnemy x = Due.of(0, 0);
        due("16 nothing SEEN", x.hates(0, 1, 0), 100);
        due("16 nothing SEEN, least", x.hates(0, 1, 1), 0);
        x.see(0, 1, 0, true);
        Due.parish(x, "need 99");
        due("16 only 99", x.hates(0, 1, 0), 1);
        due("16 only 99, least", x.hates(0, 1, 1), 99);
        Due.parish(x, "need 99;balm 1 p=0");
        due("16 none", x.hates(0, 1, 0), 0);
        due("16 none, no least", x.hates(0, 1, 1), -5);
        Due.parish(x, "need 0");
        due("16 all", x.hates(0, 1, 0), 100);
        due("16 all, least", x.hates(0, 1, 1), 0);
        x.see(-1, 0, 0, true);
        x.see(0, 1, 0, false);
        due("16 not so, none", x.hates(0, 1, 0), 0);
        due("16 not so, no least", x.hates(0, 1, 1), -5);
        Due.parish(x, "need 1");
        due("16 only 0", x.hates(0, 1, 0), 1);
        due("16 only 0, least", x.hates(0, 1, 1), 0);
        due("16 what 2", x.hates(0, 1, 2), -1);
        due("16 what -1", x.hates(0, 1, -1), -1);
        due("16 one is both", x.hates(1, 1, 0), -2);
        due("16 NONE ahead of BAD", x.hates(2, 2, 0), -1);
        due("16 what ahead of BAD", x.hates(1, 1, 2), -1);
        due("16 other 2 of 2", x.hates(0, 2, 0), -1);
    }

    /** "the least", though there are gaps: h goes by tens. */
    private static void hatesLeast() {
        NoGraveEnemy x = Due.of(0, 0);
        Due.parish(x, "need 60;sting 60 h=3");
        x.see(0, 1, 0, true);
        due("16 30 to 39, and 60 on", x.hates(0, 1, 0), 50);
        due("16 least", x.hates(0, 1, 1), 30);
        x.hate(0, 1, 35);
        due("16 whatever is now", x.hates(0, 1, 0), 50);
    }

    /** "all of SEEN of both": of the one for the other, of no other two. */
    private static void hatesOfBoth() {
        NoGraveEnemy x = Due.of(0, 0, 0);
        x.see(0, 1, 0, true);
        x.see(0, 1, 5, true);
        due("16 of both", x.hates(0, 1, 0), 70);
        due("16 of one for a third", x.hates(0, 2, 0), 100);
        due("16 of a third for the other", x.hates(2, 1, 0), 100);
        due("16 the other for one", x.hates(1, 0, 0), 100);
        x.see(0, 1, 9, false);
        due("16 all of them", x.hates(0, 1, 0), 0);
        x.see(2, 1, 0, false);
        due("16 of each pair its own", x.hates(2, 1, 0), 30);
        due("16 of each pair its own, least", x.hates(2, 1, 1), 0);
    }

    private static void seenOfEachPair() {
        for (int one = 0; one < 6; one++) {
            for (int other = 0; other < 6; other++) {
                if (one != other) {
                    seenOfThePair(one, other);
                }
            }
        }
    }

    private static void seenOfThePair(int one, int other) {
        NoGraveEnemy x = Due.of(0, 0, 0, 0, 0, 0);
        x.see(one, other, 0, true);
        for (int p = 0; p < 6; p++) {
            due("17 CAN of " + p + " by " + one + " " + other, x.can(p, 0), p == one ? 0 : 10);
            for (int q = 0; q < 6; q++) {
                int many = p == one && q == other ? 70 : p == q ? -2 : 100;
                due("16 HATES of " + p + " for " + q + " by " + one + " " + other, x.hates(p, q, 0), many);
            }
        }
    }

    /** "HATE being as now": in DAYS from now, nobody is BURIED. */
    private static void hatesAsNow() {
        NoGraveEnemy x = Due.of(3, 0);
        x.hate(0, 1, 30);
        x.die(1, true);
        x.see(0, 1, 20, true);
        due("17 its HATE would be 0 by then", x.can(0, 0), 10);
        x.pass(1);
        due("17 its HATE is 0", x.can(0, 0), 0);
        due("16 any HATE", x.hates(0, 1, 0), 70);
    }

    private static void hatesOfTheDead() {
        NoGraveEnemy x = Due.of(0, 0);
        x.see(0, 1, 0, true);
        x.die(0, true);
        due("16 SPITE of who is DEAD", x.hates(0, 1, 0), 70);
        due("17 SPITE of who is DEAD", x.can(0, 0), 0);
        x.die(1, true);
        due("16 SPITE for who is DEAD", x.hates(0, 1, 1), 30);
    }

    /** "how many numbers v (0 .. 9) there are" */
    private static void canFromEndToEnd() {
        NoGraveEnemy x = Due.of(3, 0);
        due("17 nothing SEEN", x.can(0, 0), 10);
        due("17 nothing SEEN, least", x.can(0, 1), 0);
        x.see(0, 1, 0, true);
        x.hate(0, 1, 21);
        due("17 only 9", x.can(0, 0), 1);
        due("17 only 9, least", x.can(0, 1), 9);
        x.hate(0, 1, 20);
        due("17 none", x.can(0, 0), 0);
        due("17 none, no least", x.can(0, 1), -5);
        x.hate(0, 1, 30);
        due("17 all", x.can(0, 0), 10);
        due("17 all, least", x.can(0, 1), 0);
        x.see(-1, 0, 0, true);
        x.see(0, 1, 0, false);
        due("17 not so, none", x.can(0, 0), 0);
        due("17 not so, no least", x.can(0, 1), -5);
        x.hate(0, 1, 29);
        due("17 only 0", x.can(0, 0), 1);
        due("17 only 0, least", x.can(0, 1), 0);
        due("17 v stays", x.of(0, 1), 0);
        due("17 what 2", x.can(0, 2), -1);
        due("17 what -1", x.can(0, -1), -1);
        due("17 person 2 of 2", x.can(2, 0), -1);
        due("17 person -1", x.can(-1, 0), -1);
    }

    /** "all of SEEN of the hate of it": for whomever, but not of others for it. */
    private static void canOfTheHateOfIt() {
        NoGraveEnemy x = Due.of(3, 3, 3);
        x.hate(0, 1, 28);
        x.hate(0, 2, 24);
        x.see(1, 0, 0, true);
        due("17 of others for it", x.can(0, 0), 10);
        due("17 of that other", x.can(1, 0), 0);
        x.see(0, 1, 0, true);
        due("17 for one", x.can(0, 0), 8);
        x.see(0, 2, 20, false);
        due("17 for both: 2 to 5", x.can(0, 0), 4);
        due("17 for both, least", x.can(0, 1), 2);
        due("17 a third's", x.can(2, 0), 10);
    }

    private static void canByDays() {
        NoGraveEnemy x = Due.of(3, 0, 0);
        Due.parish(x, "need 50;sting 46 d=9");
        int[] days = {0, 8, 9, 10, 18, 19, 20};
        for (int n : days) {
            x.see(-1, 0, 0, true);
            x.see(0, 2, n, true);
            due("17 SEEN behind " + n, x.can(0, 0), n % 10 == 9 ? 6 : 0);
            due("17 SEEN behind " + n + ", least", x.can(0, 1), n % 10 == 9 ? 4 : -5);
        }
        x.pass(9);
        due("17 behind 20, on DAY 9", x.can(0, 0), 6);
        x.see(0, 1, 10, false);
        due("17 not so behind 10, on DAY 9", x.can(0, 0), 0);
    }

    /** v is in the SPITE of STERN, FRIEND and TOLD, and in the v of a TEST. */
    private static void canByKind() {
        int[] fitsBy29 = {9, 9, 9, 1, 10, 9, 1};
        int[] fitsBy30 = {0, 0, 0, 0, 9, 0, 0};
        for (int kind = 0; kind <= 6; kind++) {
            NoGraveEnemy x = new NoGraveEnemy();
            x.one(0, 0);
            x.one(kind, 9);
            Due.parish(x, "need 30;sting 1 v=9");
            x.see(1, 0, 0, false);
            x.hate(1, 0, 29);
            due("17 KIND " + kind, x.can(1, 0), fitsBy29[kind]);
            due("17 KIND " + kind + ", least", x.can(1, 1), 0);
            x.hate(1, 0, 30);
            due("17 KIND " + kind + ", 30", x.can(1, 0), fitsBy30[kind]);
            due("17 KIND " + kind + ", 30, least", x.can(1, 1), kind == 4 ? 1 : -5);
            x.see(-1, 0, 0, true);
            x.see(1, 0, 0, true);
            due("17 KIND " + kind + ", 30 and so", x.can(1, 0), 10 - fitsBy30[kind]);
            due("17 v stays", x.of(1, 1), 9);
        }
    }

    private static void odds(NoGraveEnemy x, int person, int above, int below) {
        due("18 above the line for " + person, x.odds(person, 0), above);
        due("18 below the line for " + person, x.odds(person, 1), below);
    }

    /** "a fraction in lowest terms" */
    private static void oddsFromEndToEnd() {
        for (int people = 2; people <= 6; people++) {
            NoGraveEnemy x = new NoGraveEnemy();
            for (int p = 0; p < people; p++) {
                x.one(0, 0);
            }
            odds(x, 0, 0, 1);
            x.hate(people - 1, 0, 30);
            odds(x, 0, people == 2 ? 0 : people - 2, people == 2 ? 1 : people - 1);
            if (people > 2) {
                x.hate(1, 0, 30);
                odds(x, 0, 1, 1);
            }
            Due.parish(x, "need 0");
            for (int p = 0; p < people; p++) {
                odds(x, p, people == 2 ? 0 : 1, 1);
            }
        }
    }

    private static void oddsOfOneEnemy() {
        NoGraveEnemy x = Due.of(0, 0, 0, 0, 0, 0);
        x.hate(5, 0, 30);
        odds(x, 0, 4, 5);
        x.hate(0, 5, 30);
        odds(x, 5, 4, 5);
        x.hate(5, 0, 29);
        odds(x, 0, 0, 1);
        odds(x, 3, 0, 1);
    }

    /** "DEAD (too)": whoever is DEAD already is so in any case. */
    private static void oddsOfTheDead() {
        NoGraveEnemy x = Due.of(0, 0, 0, 0);
        x.hate(1, 0, 30);
        x.hate(2, 0, 30);
        x.hate(3, 0, 30);
        odds(x, 0, 1, 1);
        x.die(3, true);
        odds(x, 0, 1, 1);
        x.die(2, true);
        odds(x, 0, 2, 3);
        x.die(1, true);
        odds(x, 0, 0, 1);
        x.die(1, false);
        x.die(0, true);
        odds(x, 0, 2, 3);
    }

    /** "(NO: no such one, there are no others)"; "NO: part, as told" */
    private static void oddsAnswersNo() {
        NoGraveEnemy x = new NoGraveEnemy();
        due("18 of nobody", x.odds(0, 0), NO);
        x.one(0, 0);
        due("18 no others", x.odds(0, 0), NO);
        due("18 no others, below the line", x.odds(0, 1), NO);
        x.one(0, 0);
        due("18 one other", x.odds(0, 1), 1);
        for (int part : new int[] {-1, 2, TOP, LOW}) {
            due("18 part " + part, x.odds(0, part), NO);
            due("19 part " + part, x.mean(part), NO);
        }
        for (int person : new int[] {-1, 2, 6, TOP, LOW}) {
            due("18 person " + person, x.odds(person, 0), NO);
            due("18 person " + person + ", below the line", x.odds(person, 1), NO);
        }
    }

    private static void meanFromEndToEnd() {
        NoGraveEnemy x = new NoGraveEnemy();
        due("19 of nobody", x.mean(0), NO);
        due("19 of nobody, below the line", x.mean(1), NO);
        for (int people = 1; people <= 6; people++) {
            x.one(0, 0);
            due("19 of none", x.mean(0), 0);
            due("19 of none, below the line", x.mean(1), 1);
        }
        for (int one = 0; one < 6; one++) {
            for (int other = 0; other < 6; other++) {
                x.hate(one, other, 99);
            }
        }
        due("19 of all there is", x.mean(0), 495);
        due("19 of all there is, below the line", x.mean(1), 1);
        x.die(0, true);
        due("19 of the DEAD too", x.mean(0), 495);
    }

    private static void meanInLowestTerms() {
        NoGraveEnemy x = Due.of(0, 0, 0, 0, 0, 0);
        int[] above = {0, 1, 1, 1, 2, 5, 1, 7, 4, 3, 5, 11, 2};
        int[] below = {1, 6, 3, 2, 3, 6, 1, 6, 3, 2, 3, 6, 1};
        for (int n = 0; n <= 12; n++) {
            x.hate(2, 4, n);
            due("19 above the line of " + n, x.mean(0), above[n]);
            due("19 below the line of " + n, x.mean(1), below[n]);
        }
    }
}
