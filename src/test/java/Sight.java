/** All that can be seen of an object, as one text: objects that are alike are told by texts that are alike. */
final class Sight {
    private static final int PEOPLE = 6;
    private static final int TAPES = 6;
    private static final int[] ITEMS = {0, 1, 3, 59};

    private Sight() {
    }

    /** What can be asked, in some 200 calls; what is kept as it is comes ahead of what is worked out. */
    static String now(NoGraveEnemy x) {
        StringBuilder all = new StringBuilder();
        kept(x, all);
        tapes(x, all);
        workedOut(x, all);
        return all.toString();
    }

    /** What is seen only by changing it: ROWS, THE TEXT, which PARISHES there are, and THE IMAGE behind them. */
    static String beneath(NoGraveEnemy x) {
        StringBuilder all = new StringBuilder();
        rows(x, all);
        put(all, "parish", x.parish());
        put(all, "PARISHES", x.count(1));
        people(x, all);
        put(all, "undo", x.undo());
        rows(x, all);
        all.append(now(x));
        return all.toString();
    }

    private static void put(StringBuilder all, String name, long value) {
        all.append(name).append(' ').append(value).append('\n');
    }

    private static void kept(NoGraveEnemy x, StringBuilder all) {
        for (int what = 0; what <= 6; what++) {
            put(all, "count " + what, x.count(what));
        }
        for (int i = 0; i < 14; i++) {
            put(all, "trace " + i, x.trace(i));
        }
        for (int what = 0; what <= 4; what++) {
            put(all, "told " + what, x.told(what));
        }
        for (int p = 0; p < PEOPLE; p++) {
            for (int what = 0; what <= 4; what++) {
                put(all, "of " + p + " " + what, x.of(p, what));
            }
            for (int q = 0; q < PEOPLE; q++) {
                if (p != q) {
                    put(all, "HATE of " + p + " for " + q, x.between(p, q, 0));
                }
            }
        }
        put(all, "looked", x.looked());
    }

    /** The sort of a TAPE is seen by what may come to it from another one. */
    private static void tapes(NoGraveEnemy x, StringBuilder all) {
        for (int tape = 0; tape < TAPES; tape++) {
            for (int i : ITEMS) {
                put(all, "read " + tape + " " + i, x.read(tape, i));
            }
            for (int other = tape; other < TAPES; other++) {
                put(all, "sorts of " + tape + " and " + other, x.shift(tape, 0, other, 0, 0));
            }
        }
    }

    private static void workedOut(NoGraveEnemy x, StringBuilder all) {
        for (int what = 5; what <= 7; what++) {
            put(all, "told " + what, x.told(what));
        }
        put(all, "ends 0", x.ends(0));
        put(all, "ends 1", x.ends(1));
        put(all, "hates 0 1", x.hates(0, 1, 0));
        put(all, "hates 1 0", x.hates(1, 0, 0));
        put(all, "hates 0 2", x.hates(0, 2, 0));
        people(x, all);
    }

    private static void people(NoGraveEnemy x, StringBuilder all) {
        for (int p = 0; p < PEOPLE; p++) {
            put(all, "ENEMIES of " + p, x.of(p, 5));
            put(all, "LIES of " + p, x.of(p, 6));
            put(all, "CAN of " + p, x.can(p, 0));
        }
    }

    /** Puts each ROW back as it was. */
    private static void rows(NoGraveEnemy x, StringBuilder all) {
        for (int p = 0; p < PEOPLE; p++) {
            if (x.of(p, 0) != 6) {
                continue;
            }
            for (int part = 0; part < 4; part++) {
                int was = x.row(p, part, 0);
                put(all, "ROW " + p + " " + part, was);
                x.row(p, part, was);
            }
        }
    }
}
