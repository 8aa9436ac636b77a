/** The edges of the PLAN and ENDS, of the BOOK and LOOKED, of THE IMAGE: promises 20 to 23, 25 and 26. */
public final class EdgePlanTests {
    private static final int TOP = Integer.MAX_VALUE;
    private static final int LOW = Integer.MIN_VALUE;

    private EdgePlanTests() {
    }

    private static void due(String call, long got, long want) {
        Due.due(call, got, want);
    }

    public static void main(String[] args) {
        planFromEndToEnd();
        planEachNumber();
        planNone();
        endsOfEachRow();
        endsInTheirOrder();
        endsOfTenDays();
        endsGoesOn();
        endsOfTheBuried();
        bookFromEndToEnd();
        bookEachNumber();
        bookNone();
        lookedAtEachRow();
        lookedNow();
        noImage();
        imageOfAll();
        imageAgain();
        imageOfEachSeen();
        imageOfEachRowOfThePlan();
        imageOfEachRowOfTheBook();
        imageIsNotNow();
        whatTheImageIsNot();
        imageOfNobody();
        imageOfTheParish();
        Due.end();
    }

    /** "NONE: what (0 .. 3), person (but by 0); FULL: 10" */
    private static void planFromEndToEnd() {
        NoGraveEnemy x = Due.of(0);
        for (int n = 1; n <= 10; n++) {
            due("20 row " + n, x.plan(n % 4, 0), n);
            due("20 count", x.count(3), n);
        }
        due("20 row 11", x.plan(0, 0), -4);
        due("20 row 11, of another sort", x.plan(3, 0), -4);
        due("20 NONE ahead of FULL, what", x.plan(4, 0), -1);
        due("20 NONE ahead of FULL, person", x.plan(2, 1), -1);
        due("20 ten", x.count(3), 10);
    }

    private static void planEachNumber() {
        for (int what = -3; what <= 5; what++) {
            for (int person : new int[] {LOW, -2, -1, 0, 1, 2, 6, TOP}) {
                NoGraveEnemy x = Due.of(0, 0);
                boolean isThere = person == 0 || person == 1;
                boolean isRow = what == 0 || what >= 1 && what <= 3 && isThere;
                int want = what == -1 ? 0 : isRow ? 1 : -1;
                due("20 plan " + what + " " + person, x.plan(what, person), want);
                due("20 count", x.count(3), Math.max(want, 0));
            }
        }
        NoGraveEnemy nobody = new NoGraveEnemy();
        due("20 a DAY of nobody", nobody.plan(0, 0), 1);
        due("20 nobody is DEAD", nobody.plan(1, 0), -1);
        due("20 wild", nobody.plan(TOP, TOP) + nobody.plan(LOW, LOW), -2);
    }

    /** "(what -1: it is empty then, 0, whatever the other is)" */
    private static void planNone() {
        NoGraveEnemy x = Due.of(0, 0);
        due("20 none of none", x.plan(-1, 77), 0);
        x.hate(0, 1, 50);
        for (int n = 0; n < 10; n++) {
            x.plan(2, 0);
        }
        due("21 ENDS", x.ends(1), 0);
        due("20 none, though FULL", x.plan(-1, -1), 0);
        due("20 none then", x.count(3), 0);
        due("21 ENDS of none", x.ends(1), 50);
        due("20 from the first on", x.plan(0, 9), 1);
        due("21 what was is not", x.ends(1), 50);
    }

    private static NoGraveEnemy three() {
        NoGraveEnemy x = Due.of(0, 0, 0);
        int[] hates = {0, 40, 2, 30, 0, 8, 16, 35, 0};
        for (int n = 0; n < 9; n++) {
            x.hate(n / 3, n % 3, hates[n]);
        }
        return x;
    }

    /** "(0 a DAY, 1 one is DEAD, 2 HATES of one for all others are 0, 3 all others' for it ..)" */
    private static void endsOfEachRow() {
        int[][] left = {{131, 131, 131}, {131, 131, 131}, {89, 93, 80}, {85, 56, 121}};
        for (int what = 0; what <= 3; what++) {
            for (int person = 0; person < 3; person++) {
                NoGraveEnemy x = three();
                x.plan(what, person);
                due("21 HATE by " + what + " " + person, x.ends(1), left[what][person]);
                due("21 BURIED by " + what + " " + person, x.ends(0), 0);
                x.plan(1, person);
                x.plan(0, 0);
                int enemies = person == 2 ? 0 : what == 3 ? 0 : 1 << person;
                due("21 BURIED behind " + what + " " + person, x.ends(0), enemies);
            }
        }
        due("21 what 2", three().ends(2), -1);
        due("21 what -1", three().ends(-1), -1);
        due("21 what wild", three().ends(LOW), -1);
    }

    private static void endsInTheirOrder() {
        NoGraveEnemy x = three();
        x.plan(0, 0);
        x.plan(1, 1);
        due("21 DEAD behind the DAY", x.ends(0), 0);
        x.plan(0, 0);
        due("21 a DAY behind", x.ends(0), 2);
        due("21 HATE of the first is 0", x.ends(1), 91);
        x.plan(1, 0);
        x.plan(0, 0);
        due("21 one DEAD more, whom the DEAD do not bury", x.ends(0), 2);
        NoGraveEnemy y = three();
        y.plan(1, 0);
        y.plan(1, 1);
        y.plan(0, 0);
        due("21 by the only one left", y.ends(0), 2);
        due("21 HATE of the third", y.ends(1), 96);
        NoGraveEnemy z = three();
        z.plan(3, 1);
        z.plan(1, 1);
        z.plan(0, 0);
        due("21 nobody hates it", z.ends(0), 0);
    }

    private static void endsOfTenDays() {
        NoGraveEnemy x = Due.of(0, 0);
        Due.parish(x, "need 50;sting 50 d=9");
        x.die(1, true);
        for (int n = 1; n <= 9; n++) {
            x.plan(0, 0);
        }
        due("21 nine DAYS", x.ends(0), 0);
        x.plan(0, 0);
        due("21 ten DAYS", x.ends(0), 2);
        due("21 an eleventh", x.plan(0, 0), -4);
        due("21 not BURIED now", x.told(3), 0);
        due("21 DAY stays", x.told(0), 0);
    }

    /** "goes on from how all is" */
    private static void endsGoesOn() {
        NoGraveEnemy x = three();
        x.plan(0, 0);
        x.die(1, true);
        due("21 who is DEAD now", x.ends(0), 2);
        due("21 HATE then", x.ends(1), 91);
        x.pass(1);
        due("21 who is BURIED now", x.ends(0), 2);
        due("21 HATE now", x.ends(1), 91);
        x.hate(1, 0, 99);
        due("21 HATE as it is now", x.ends(1), 160);
        x.plan(-1, 0);
        due("21 empty: as it is", x.ends(1), 160);
        due("21 empty: who is BURIED", x.ends(0), 2);
    }

    private static void endsOfTheBuried() {
        NoGraveEnemy x = three();
        x.die(1, true);
        x.pass(1);
        x.plan(1, 1);
        x.plan(0, 0);
        due("21 DEAD already, and BURIED", x.ends(0), 2);
        due("21 nobody throws again", x.ends(1), 91);
    }

    /** "HATE (0 .. 99; 8 at most)"; "NONE; BAD: one is both, hate; FULL: 8" */
    private static void bookFromEndToEnd() {
        NoGraveEnemy x = Due.of(0, 0);
        due("22 hate -1", x.book(0, 1, -1), -2);
        due("22 hate 100", x.book(0, 1, 100), -2);
        due("22 hate wild", x.book(0, 1, LOW), -2);
        due("22 one is both", x.book(1, 1, 0), -2);
        due("22 NONE ahead of BAD, both", x.book(2, 2, 0), -1);
        due("22 NONE ahead of BAD, hate", x.book(0, 2, 100), -1);
        due("22 none so far", x.count(4), 0);
        due("22 hate 0", x.book(0, 1, 0), 1);
        due("22 hate 99", x.book(0, 1, 99), 2);
        for (int n = 3; n <= 8; n++) {
            due("22 row " + n, x.book(1, 0, n), n);
            due("22 count", x.count(4), n);
        }
        due("22 row 9", x.book(1, 0, 0), -4);
        due("22 NONE ahead of FULL", x.book(1, 2, 0), -1);
        due("22 BAD ahead of FULL, both", x.book(1, 1, 0), -2);
        due("22 BAD ahead of FULL, hate", x.book(1, 0, 100), -2);
        due("22 eight", x.count(4), 8);
    }

    private static void bookEachNumber() {
        for (int one = -3; one <= 7; one++) {
            for (int other = -3; other <= 7; other++) {
                NoGraveEnemy x = Due.of(0, 0, 0, 0, 0, 0);
                boolean isThere = one >= 0 && one <= 5 && other >= 0 && other <= 5;
                int want = one == -1 ? 0 : !isThere ? -1 : one == other ? -2 : 1;
                due("22 book " + one + " " + other, x.book(one, other, 7), want);
                due("22 count", x.count(4), Math.max(want, 0));
            }
        }
    }

    /** "(one -1: it is empty then, 0, whatever the others are)" */
    private static void bookNone() {
        NoGraveEnemy x = Due.of(0, 0);
        due("22 none of none", x.book(-1, 99, 100), 0);
        for (int n = 0; n < 8; n++) {
            x.book(0, 1, 5);
        }
        due("23 otherwise", x.looked(), 0);
        due("22 none, though FULL", x.book(-1, -1, -1), 0);
        due("22 none then", x.count(4), 0);
        due("23 nothing to look at", x.looked(), -5);
        due("22 from the first on", x.book(1, 0, 0), 1);
        due("23 as it is", x.looked(), -5);
    }

    /** "the number of the first of these rows by which it is otherwise now (-5: none)" */
    private static void lookedAtEachRow() {
        for (int row = 0; row < 8; row++) {
            NoGraveEnemy x = Due.of(0, 0, 0);
            x.hate(0, 1, 60);
            x.hate(1, 0, 70);
            for (int n = 0; n < 8; n++) {
                x.book(n % 2, 1 - n % 2, n >= row ? 61 : n % 2 == 0 ? 60 : 70);
            }
            due("23 row " + row, x.looked(), row);
        }
    }

    private static void lookedNow() {
        NoGraveEnemy x = Due.of(0, 0);
        x.hate(0, 1, 99);
        x.book(0, 1, 99);
        x.book(1, 0, 0);
        due("23 as it is", x.looked(), -5);
        x.hate(0, 1, 98);
        due("23 one less", x.looked(), 0);
        x.hate(0, 1, 99);
        x.hate(1, 0, 1);
        due("23 one more", x.looked(), 1);
        x.hate(1, 0, 0);
        x.die(1, true);
        due("23 as it is, though one is DEAD", x.looked(), -5);
        x.pass(1);
        due("23 otherwise, since it threw", x.looked(), 0);
    }

    /** "STATE: there is none" */
    private static void noImage() {
        NoGraveEnemy x = Due.of(0, 0);
        due("26 none", x.undo(), -3);
        due("26 PEOPLE stay", x.count(0), 2);
        due("25 two", x.image(), 2);
        due("26 two", x.undo(), 2);
        due("26 two again", x.undo(), 2);
    }

    /** All that can be told, told otherwise. */
    private static void otherwise(NoGraveEnemy x, int by) {
        for (int p = 0; p < x.count(0); p++) {
            for (int q = 0; q < x.count(0); q++) {
                x.hate(p, q, (31 * p + 17 * q + 40 + by) % 100);
            }
            for (int part = 0; part <= 3; part++) {
                x.row(p, part, (p + part + by) % 10);
            }
            x.die(p, (p + by) % 2 == 0);
        }
        x.pass(1 + by);
        x.see(-1, 0, 0, true);
        x.plan(-1, 0);
        x.book(-1, 0, 0);
        x.see(1, 0, by, true);
        x.see(0, 1, by + 1, true);
        x.plan(1, by % 2);
        x.plan(0, 0);
        x.book(1, 0, x.between(1, 0, 0));
        x.book(0, 1, by);
    }

    private static NoGraveEnemy pictured() {
        NoGraveEnemy x = new NoGraveEnemy();
        x.one(6, 3);
        x.one(5, 8);
        x.one(3, 5);
        Due.parish(x, "need 41;sting 9 p=1");
        otherwise(x, 1);
        return x;
    }

    /** "All is as THE IMAGE", down to the last row. */
    private static void imageOfAll() {
        String whole = Sight.now(pictured());
        NoGraveEnemy x = pictured();
        due("25 three", x.image(), 3);
        due("25 taking it changes nothing", Sight.now(x).equals(whole) ? 1 : 0, 1);
        NoGraveEnemy y = pictured();
        y.image();
        y.one(6, 9);
        otherwise(y, 4);
        due("26 three", y.undo(), 3);
        due("26 as it was", Sight.now(y).equals(whole) ? 1 : 0, 1);
        NoGraveEnemy z = pictured();
        z.image();
        z.one(6, 9);
        otherwise(z, 4);
        z.undo();
        due("26 as it was, beneath", tail(Sight.beneath(z)).equals(tail(Sight.beneath(pictured()))) ? 1 : 0, 1);
    }

    /** ROWS, and what a text of nothing does; the object that was never pictured answers undo otherwise. */
    private static String tail(String beneath) {
        return beneath.substring(0, beneath.indexOf("undo"));
    }

    /** What is changed behind undo() does not reach THE IMAGE. */
    private static void imageAgain() {
        String whole = Sight.now(pictured());
        NoGraveEnemy x = pictured();
        x.image();
        x.undo();
        x.one(0, 0);
        otherwise(x, 6);
        x.undo();
        due("26 as it was, twice", Sight.now(x).equals(whole) ? 1 : 0, 1);
        NoGraveEnemy y = pictured();
        y.image();
        otherwise(y, 2);
        y.image();
        String later = Sight.now(later());
        otherwise(y, 3);
        y.undo();
        due("26 as THE IMAGE that came last", Sight.now(y).equals(later) ? 1 : 0, 1);
    }

    private static NoGraveEnemy later() {
        NoGraveEnemy x = pictured();
        otherwise(x, 2);
        return x;
    }

    private static void imageOfEachSeen() {
        for (int row = 0; row < 5; row++) {
            NoGraveEnemy x = Due.of(3, 0, 0);
            for (int n = 0; n < 5; n++) {
                x.see(n == row ? 0 : 1, 2, n == row ? 20 : n, n != row);
            }
            x.image();
            x.see(-1, 0, 0, true);
            for (int n = 0; n < 5; n++) {
                x.see(2, 1, 3, true);
            }
            x.undo();
            due("26 SEEN, row " + row, x.hates(0, 2, 0), 30);
            due("26 SEEN, row " + row + ", what it is not", x.hates(0, 2, 1), 0);
            due("26 SEEN, all but row " + row, x.hates(1, 2, 0), 70);
            due("26 SEEN, not what came behind THE IMAGE", x.hates(2, 1, 0), 100);
            due("26 SEEN, how many", x.count(2), 5);
        }
    }

    private static void imageOfEachRowOfThePlan() {
        for (int row = 0; row < 10; row++) {
            NoGraveEnemy x = three();
            for (int n = 0; n < 10; n++) {
                x.plan(n == row ? 2 : 0, 2);
            }
            x.image();
            x.plan(-1, 0);
            for (int n = 0; n < 10; n++) {
                x.plan(3, 1);
            }
            x.undo();
            due("26 PLAN, row " + row, x.ends(1), 80);
            due("26 PLAN, how many", x.count(3), 10);
        }
    }

    private static void imageOfEachRowOfTheBook() {
        for (int row = 0; row < 8; row++) {
            NoGraveEnemy x = three();
            for (int n = 0; n < 8; n++) {
                x.book(n % 2, 2, n == row ? 99 : n % 2 == 0 ? 2 : 8);
            }
            x.image();
            x.book(-1, 0, 0);
            for (int n = 0; n < 8; n++) {
                x.book(2, 1, 35);
            }
            x.undo();
            due("26 BOOK, row " + row, x.looked(), row);
            due("26 BOOK, how many", x.count(4), 8);
        }
    }

    private static void imageIsNotNow() {
        NoGraveEnemy x = Due.of(0, 0, 0);
        x.image();
        x.one(6, 4);
        x.hate(3, 0, 50);
        x.hate(0, 3, 50);
        x.row(3, 2, 8);
        x.die(3, true);
        x.pass(1);
        x.undo();
        due("26 the fourth is gone", x.of(3, 0), -1);
        due("26 HATE of it too", x.told(4), 0);
        due("26 nobody is DEAD", x.told(2) + x.told(3), 0);
        due("26 another fourth", x.one(6, 1), 3);
        due("26 its v", x.of(3, 1), 1);
        due("26 its HATE", x.between(3, 0, 0) + x.between(0, 3, 0), 0);
        due("26 its ROW", x.row(3, 2, 0), 0);
        due("26 not DEAD, not BURIED", x.of(3, 2) + x.of(3, 3), 0);
        due("26 THROWN of who threw", x.of(0, 4), 0);
    }

    private static void whatTheImageIsNot() {
        NoGraveEnemy x = Due.of(0, 0);
        Due.feed(x, "need");
        x.tape(0, 3, 2);
        x.act(1, 2, 5);
        x.image();
        Due.feed(x, " 7");
        due("26 a PARISH behind it", x.parish(), 0);
        Due.feed(x, "sting");
        x.tape(0, 3, 3);
        x.item(0, 2, 8);
        x.act(1, 0, 5);
        x.undo();
        due("26 no PARISH holds", x.told(1), 30);
        due("26 PARISHES stay", x.count(1), 1);
        due("26 THE TEXT stays", x.count(5), 5);
        due("26 TAPES stay", x.read(0, 2), 8);
        due("26 THE TRACE stays", x.count(6), 1);
        due("26 its body", x.trace(0), 10);
        Due.feed(x, " 1 p=0");
        due("26 the next PARISH", x.parish(), 1);
        due("26 it holds", x.between(0, 1, 1), 1);
    }

    private static void imageOfNobody() {
        NoGraveEnemy x = new NoGraveEnemy();
        due("25 nobody", x.image(), 0);
        for (int p = 0; p < 6; p++) {
            x.one(p, p);
        }
        x.pass(60);
        x.plan(0, 0);
        due("25 not taken anew", x.undo(), 0);
        due("26 nobody", x.count(0), 0);
        due("26 DAY 0", x.told(0), 0);
        due("26 no PLAN", x.count(3), 0);
        due("26 the first once more", x.one(0, 0), 0);
        for (int p = 1; p < 6; p++) {
            x.one(p, 9);
        }
        due("25 six", x.image(), 6);
        due("26 six", x.undo(), 6);
        due("26 FULL as before", x.one(0, 0), -4);
    }

    private static void imageOfTheParish() {
        NoGraveEnemy x = Due.of(0, 0);
        for (int n = 0; n < 3; n++) {
            Due.parish(x, "need " + (40 + n) + ";sting " + (10 + n) + " p=0");
        }
        x.image();
        for (int n = 3; n < 6; n++) {
            Due.parish(x, "need " + (40 + n) + ";sting " + (10 + n) + " p=0");
        }
        due("9 the newest", x.told(1), 45);
        x.undo();
        due("26 NEED of the third", x.told(1), 42);
        due("26 stings of the third", x.between(0, 1, 1), 12);
        due("26 six PARISHES", Due.parish(x, "need 1"), -4);
    }
}
