/** Objects in which much has been told already, for tests of what is left as it is. */
final class Scenes {
    private Scenes() {
    }

    /** Four PEOPLE, one BURIED, one DEAD, some rows of all, tapes of all sorts; THE IMAGE is of three days before. */
    static NoGraveEnemy some() {
        NoGraveEnemy x = new NoGraveEnemy();
        x.one(6, 3);
        x.one(5, 4);
        x.one(4, 1);
        hates(x, 3);
        x.row(0, 0, 4);
        x.row(0, 3, 9);
        Due.parish(x, "sting 9 d>4;need 33");
        x.see(0, 1, 4, true);
        x.plan(1, 2);
        x.book(0, 1, 50);
        x.die(1, true);
        x.image();
        x.one(1, 2);
        hates(x, 4);
        x.row(0, 1, 7);
        x.hate(0, 1, 50);
        x.pass(3);
        x.die(2, true);
        x.see(1, 0, 3, false);
        x.plan(0, 0);
        x.plan(3, 0);
        x.book(1, 2, 8);
        Due.parish(x, "need 31;balm 3 p=1");
        tapes(x);
        Due.feed(x, "need 2");
        x.act(0, 2, 5);
        return x;
    }

    /** Nothing more goes in: six PEOPLE, 100 bytes, five SEEN, a PLAN of ten, a BOOK of eight; five PARISHES. */
    static NoGraveEnemy full() {
        NoGraveEnemy x = new NoGraveEnemy();
        for (int p = 0; p < 6; p++) {
            x.one(6 - p, p);
        }
        hates(x, 6);
        for (int n = 1; n <= 5; n++) {
            Due.parish(x, "need " + 5 * n);
            x.see(0, 1, n, true);
        }
        for (int n = 0; n < 10; n++) {
            x.plan(n == 0 ? 1 : n == 9 ? 2 : 0, 5);
        }
        for (int n = 0; n < 8; n++) {
            x.book(0, 1, n < 7 ? x.between(0, 1, 0) : 0);
        }
        Due.feed(x, hundred());
        x.image();
        return x;
    }

    /** The same, and THE TEXT is as short as can be, with six PARISHES. */
    static NoGraveEnemy sixParishes() {
        NoGraveEnemy x = Due.of(0, 0);
        for (int n = 0; n < 6; n++) {
            Due.parish(x, "need " + (10 + n));
        }
        x.image();
        return x;
    }

    /** The last DAY; with one to be BURIED on it. */
    static NoGraveEnemy lastDay() {
        NoGraveEnemy x = Due.of(0, 1, 6);
        for (int n = 0; n < 166; n++) {
            x.pass(60);
        }
        x.pass(39);
        x.hate(0, 1, 60);
        x.die(1, true);
        x.image();
        return x;
    }

    /** A PARISH of 100 bytes. */
    static String hundred() {
        StringBuilder text = new StringBuilder("sting 10 p=0");
        for (int n = 0; n < 22; n++) {
            text.append(n % 2 == 0 ? "|p=9" : "&q<9");
        }
        return text.toString();
    }

    private static void hates(NoGraveEnemy x, int people) {
        for (int p = 0; p < people; p++) {
            for (int q = 0; q < people; q++) {
                x.hate(p, q, (11 + 17 * p + 29 * q) % 100);
            }
        }
    }

    private static void tapes(NoGraveEnemy x) {
        for (int sort = 0; sort <= 4; sort++) {
            x.tape(sort, sort, 4);
            x.item(sort, 0, -1);
            x.item(sort, 3, 1);
        }
    }
}
