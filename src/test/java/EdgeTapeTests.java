/** The edges of TAPES, and of what is JUDGED by them: promises 24 and 31 to 34. */
public final class EdgeTapeTests {
    private static final long NO = NoGraveEnemy.NO;
    private static final int TOP = Integer.MAX_VALUE;
    private static final int LOW = Integer.MIN_VALUE;

    private EdgeTapeTests() {
    }

    private static void due(String call, long got, long want) {
        Due.due(call, got, want);
    }

    public static void main(String[] args) {
        judgedFromEndToEnd();
        judgedAtTheEnd();
        judgedWithoutARow();
        judgedNobody();
        judgeAnswersFirst();
        tapesFromEndToEnd();
        sortsFromEndToEnd();
        lengthsFromEndToEnd();
        tapeAnswersFirst();
        tapeIsAllNothing();
        itemsWrap();
        itemsFromEndToEnd();
        itemAnswersFirst();
        readAnswersNo();
        shiftFromEndToEnd();
        shiftOverItself();
        shiftOfNone();
        shiftBeyond();
        shiftAnswersFirst();
        shiftOfEachSort();
        Due.end();
    }

    /** Six PEOPLE, of whom 1, 3 and 4 are DEAD; TAPE 0 says so from place 54 of 60 on. */
    private static NoGraveEnemy judged() {
        NoGraveEnemy x = Due.of(0, 0, 0, 0, 0, 0);
        x.tape(0, 4, 60);
        for (int p : new int[] {1, 3, 4}) {
            x.die(p, true);
            x.item(0, 54 + p, 1);
        }
        return x;
    }

    /** "the first that is otherwise; -5: none" */
    private static void judgedFromEndToEnd() {
        NoGraveEnemy x = judged();
        due("24 none otherwise", x.judge(0, 54), -5);
        for (int p = 5; p >= 0; p--) {
            x.item(0, 54 + p, 1 - x.of(p, 2));
            due("24 the first that is otherwise", x.judge(0, 54), p);
        }
        NoGraveEnemy y = judged();
        for (int p = 5; p >= 0; p--) {
            y.die(p, y.of(p, 2) == 0);
            due("24 the first that is otherwise now", y.judge(0, 54), p);
        }
        NoGraveEnemy z = judged();
        z.item(0, 55, 2);
        due("24 each item is 0 or 1", z.judge(0, 54), -5);
    }

    /** "100 and how many were looked at, if the row ends ahead of that" */
    private static void judgedAtTheEnd() {
        for (int places = 0; places <= 7; places++) {
            NoGraveEnemy x = Due.of(0, 0, 0, 0, 0, 0);
            x.tape(3, 4, places);
            due("24 " + places + " places", x.judge(3, 0), places >= 6 ? -5 : 100 + places);
            x.tape(3, 4, 60);
            due("24 at place " + (60 - places), x.judge(3, 60 - places), places >= 6 ? -5 : 100 + places);
        }
        NoGraveEnemy y = judged();
        due("24 otherwise ahead of the end", y.judge(0, 55), 0);
        due("24 otherwise at the last place", y.judge(0, 59), 100 + 1);
        y.item(0, 59, 1);
        due("24 otherwise in the last place", y.judge(0, 59), 0);
        due("24 at the end", y.judge(0, 60), 100);
        due("24 beyond the end", y.judge(0, 61), 100);
        due("24 far beyond", y.judge(0, TOP), 100);
        due("24 nearly so far", y.judge(0, TOP - 5), 100);
    }

    /** "(or the place is below 0, or the TAPE holds nothing)" */
    private static void judgedWithoutARow() {
        NoGraveEnemy x = judged();
        due("24 place -1", x.judge(0, -1), 100);
        due("24 place -6", x.judge(0, -6), 100);
        due("24 place far below", x.judge(0, LOW), 100);
        for (int tape = 1; tape <= 5; tape++) {
            due("24 holds nothing", x.judge(tape, 0), 100);
            due("24 holds nothing, below 0", x.judge(tape, -1), 100);
        }
        x.tape(0, 4, 0);
        due("24 a row of none", x.judge(0, 0), 100);
        x.tape(0, -1, 0);
        due("24 holds nothing any longer", x.judge(0, 0), 100);
    }

    /** "or there are no PEOPLE" */
    private static void judgedNobody() {
        NoGraveEnemy x = new NoGraveEnemy();
        x.tape(1, 4, 3);
        x.tape(2, 4, 0);
        for (int tape = 0; tape <= 5; tape++) {
            for (int i : new int[] {LOW, -1, 0, 3, 60, TOP}) {
                due("24 nobody, TAPE " + tape + ", place " + i, x.judge(tape, i), -5);
            }
        }
    }

    /** "NONE: tape; CAST: it is no row of booleans." */
    private static void judgeAnswersFirst() {
        NoGraveEnemy x = new NoGraveEnemy();
        due("24 NONE ahead of nobody", x.judge(6, 0), -1);
        for (int sort = 0; sort <= 3; sort++) {
            x.tape(sort, sort, 3);
            due("24 CAST, sort " + sort, x.judge(sort, 0), -12);
        }
        x.one(0, 0);
        for (int sort = 0; sort <= 3; sort++) {
            due("24 CAST, sort " + sort + ", with one", x.judge(sort, 0), -12);
            due("24 CAST ahead of the place", x.judge(sort, -1), -12);
            x.tape(sort, sort, 0);
            due("24 CAST of a row of none", x.judge(sort, 0), -12);
        }
        for (int tape : new int[] {-1, 6, TOP, LOW}) {
            due("24 TAPE " + tape, x.judge(tape, 0), -1);
            due("24 TAPE " + tape + ", below 0", x.judge(tape, -1), -1);
        }
    }

    /** "TAPES 0 .. 5" */
    private static void tapesFromEndToEnd() {
        NoGraveEnemy x = new NoGraveEnemy();
        for (int tape = 0; tape <= 5; tape++) {
            due("31 TAPE " + tape, x.tape(tape, 3, tape + 1), 1);
            due("32 its last", x.item(tape, tape, 70 + tape), 1);
            due("32 behind its last", x.item(tape, tape + 1, 7), -13);
        }
        for (int tape = 0; tape <= 5; tape++) {
            due("33 each its own", x.read(tape, tape), 70 + tape);
        }
        for (int tape : new int[] {-1, 6, TOP, LOW}) {
            due("31 TAPE " + tape, x.tape(tape, 3, 1), -1);
            due("32 TAPE " + tape, x.item(tape, 0, 1), -1);
            due("33 TAPE " + tape, x.read(tape, 0), NO);
            due("34 TAPE " + tape, x.shift(tape, 0, 0, 0, 1), -1);
            due("34 TAPE " + tape + ", the other", x.shift(0, 0, tape, 0, 1), -1);
        }
    }

    private static void sortsFromEndToEnd() {
        NoGraveEnemy x = new NoGraveEnemy();
        for (int sort : new int[] {-2, 5, TOP, LOW}) {
            due("31 sort " + sort, x.tape(0, sort, 1), -2);
            due("31 BAD ahead of SIZE, " + sort, x.tape(0, sort, -1), -2);
        }
        due("31 nothing so far", x.item(0, 0, 1), -11);
        for (int sort = 0; sort <= 4; sort++) {
            due("31 sort " + sort, x.tape(0, sort, 1), 1);
            due("32 put", x.item(0, 0, -1), 1);
            due("33 read", x.read(0, 0), sort == 4 ? 1 : -1);
        }
    }

    /** "n (0 .. 60)"; "n above 60"; "a size below 0" */
    private static void lengthsFromEndToEnd() {
        for (int sort = 0; sort <= 4; sort++) {
            NoGraveEnemy x = new NoGraveEnemy();
            due("31 n 0", x.tape(0, sort, 0), 1);
            due("32 no place 0", x.item(0, 0, 1), -13);
            due("33 no place 0", x.read(0, 0), NO);
            due("31 n 1", x.tape(0, sort, 1), 1);
            due("32 place 0", x.item(0, 0, 1), 1);
            due("32 no place 1", x.item(0, 1, 1), -13);
            due("31 n 60", x.tape(0, sort, 60), 1);
            due("33 all 0", x.read(0, 0), 0);
            due("32 place 59", x.item(0, 59, 1), 1);
            due("33 place 59", x.read(0, 59), 1);
            due("32 no place 60", x.item(0, 60, 1), -13);
            due("33 no place 60", x.read(0, 60), NO);
            for (int n : new int[] {61, TOP}) {
                due("31 n " + n, x.tape(0, sort, n), -2);
            }
            for (int n : new int[] {-1, LOW}) {
                due("31 n " + n, x.tape(0, sort, n), -14);
            }
            due("33 as it was", x.read(0, 59), 1);
        }
    }

    /** "NONE: tape; BAD: sort, n above 60; SIZE." */
    private static void tapeAnswersFirst() {
        NoGraveEnemy x = new NoGraveEnemy();
        due("31 NONE ahead of BAD", x.tape(6, 5, 61), -1);
        due("31 NONE ahead of SIZE", x.tape(6, 0, -1), -1);
        due("31 NONE ahead of nothing", x.tape(-1, -1, 0), -1);
        due("31 BAD ahead of SIZE", x.tape(0, 5, -1), -2);
        due("31 BAD", x.tape(0, 5, 61), -2);
    }

    /** "all 0, or holds nothing (sort -1: n does not matter)" */
    private static void tapeIsAllNothing() {
        NoGraveEnemy x = new NoGraveEnemy();
        for (int n : new int[] {LOW, -1, 0, 1, 60, 61, TOP}) {
            x.tape(2, 3, 60);
            for (int i = 0; i < 60; i += 59) {
                x.item(2, i, NO + 1 + i);
            }
            due("31 holds nothing, n " + n, x.tape(2, -1, n), 1);
            due("32 nothing there", x.item(2, 0, 1), -11);
            due("33 nothing there", x.read(2, 0), NO);
            x.tape(2, 3, 60);
            due("31 all 0 then, the first", x.read(2, 0), 0);
            due("31 all 0 then, the last", x.read(2, 59), 0);
        }
        due("31 holds nothing, held nothing", x.tape(5, -1, 0), 1);
    }

    /** "its lowest bits, as many as an item has; booleans: whether v is not 0" */
    private static void itemsWrap() {
        long[][] cases = {
            {0, 127, 127}, {0, 128, -128}, {0, 255, -1}, {0, 256, 0}, {0, -128, -128}, {0, -129, 127},
            {1, 32767, 32767}, {1, 32768, -32768}, {1, 65535, -1}, {1, 65536, 0}, {1, -32768, -32768},
            {1, -32769, 32767},
            {2, TOP, TOP}, {2, TOP + 1L, LOW}, {2, 4294967295L, -1}, {2, 4294967296L, 0}, {2, LOW, LOW},
            {2, LOW - 1L, TOP},
            {3, Long.MAX_VALUE, Long.MAX_VALUE}, {3, NO, NO}, {3, -1, -1}, {3, 4294967296L, 4294967296L},
            {4, 0, 0}, {4, 1, 1}, {4, 2, 1}, {4, -1, 1}, {4, 256, 1}, {4, 65536, 1}, {4, 4294967296L, 1},
            {4, NO, 1}, {4, Long.MAX_VALUE, 1},
            {0, NO, 0}, {1, NO, 0}, {2, NO, 0}, {0, Long.MAX_VALUE, -1}, {1, Long.MAX_VALUE, -1},
            {2, Long.MAX_VALUE, -1}
        };
        for (long[] one : cases) {
            NoGraveEnemy x = new NoGraveEnemy();
            x.tape(0, (int) one[0], 3);
            due("32 sort " + one[0] + ", " + one[1], x.item(0, 1, one[1]), 1);
            due("33 sort " + one[0] + ", " + one[1], x.read(0, 1), one[2]);
            due("33 the one ahead", x.read(0, 0), 0);
            due("33 the one behind", x.read(0, 2), 0);
        }
    }

    private static void itemsFromEndToEnd() {
        NoGraveEnemy x = new NoGraveEnemy();
        x.tape(0, 2, 60);
        for (int i = 0; i < 60; i++) {
            due("32 place " + i, x.item(0, i, 1000 + i), 1);
        }
        for (int i = 0; i < 60; i++) {
            due("33 place " + i, x.read(0, i), 1000 + i);
        }
        for (int i : new int[] {-1, 60, TOP, LOW}) {
            due("32 place " + i, x.item(0, i, 5), -13);
            due("33 place " + i, x.read(0, i), NO);
        }
        due("33 as it was, the first", x.read(0, 0), 1000);
        due("33 as it was, the last", x.read(0, 59), 1059);
    }

    /** "NONE; NOTHING; PLACE." */
    private static void itemAnswersFirst() {
        NoGraveEnemy x = new NoGraveEnemy();
        due("32 NONE ahead of PLACE", x.item(6, -1, 1), -1);
        due("32 NOTHING ahead of PLACE", x.item(0, -1, 1), -11);
        due("32 NOTHING", x.item(0, 0, 1), -11);
        x.tape(0, 0, 0);
        due("32 PLACE in a row of none", x.item(0, 0, 1), -13);
    }

    /** "NO: no such TAPE, nothing there, no such place." */
    private static void readAnswersNo() {
        NoGraveEnemy x = new NoGraveEnemy();
        due("33 nothing there", x.read(0, 0), NO);
        x.tape(0, 3, 2);
        due("33 place 0", x.read(0, 0), 0);
        due("33 place 1", x.read(0, 1), 0);
        due("33 place 2", x.read(0, 2), NO);
        due("33 place -1", x.read(0, -1), NO);
        due("33 TAPE 6", x.read(6, 0), NO);
        due("33 TAPE -1", x.read(-1, 0), NO);
        x.tape(0, -1, 2);
        due("33 nothing there any longer", x.read(0, 0), NO);
    }

    private static NoGraveEnemy counted(int tape, int sort, int n) {
        NoGraveEnemy x = new NoGraveEnemy();
        x.tape(tape, sort, n);
        for (int i = 0; i < n; i++) {
            x.item(tape, i, i + 1);
        }
        return x;
    }

    private static void row(String call, NoGraveEnemy x, int tape, int... want) {
        for (int i = 0; i < want.length; i++) {
            due(call + ", place " + i, x.read(tape, i), want[i]);
        }
        due(call + ", no more", x.read(tape, want.length), NO);
    }

    private static void shiftFromEndToEnd() {
        NoGraveEnemy x = counted(0, 2, 60);
        x.tape(5, 2, 60);
        due("34 all 60", x.shift(0, 0, 5, 0, 60), 60);
        for (int i = 0; i < 60; i++) {
            due("34 place " + i, x.read(5, i), i + 1);
            due("34 as it was, place " + i, x.read(0, i), i + 1);
        }
        due("34 61", x.shift(0, 0, 5, 0, 61), -13);
        NoGraveEnemy y = counted(1, 3, 5);
        y.tape(2, 3, 3);
        due("34 the last two", y.shift(1, 3, 2, 0, 2), 2);
        row("34 the last two", y, 2, 4, 5, 0);
        due("34 to the last place", y.shift(1, 0, 2, 2, 1), 1);
        row("34 to the last place", y, 2, 4, 5, 1);
        row("34 from", y, 1, 1, 2, 3, 4, 5);
    }

    /** "(or the same) .. as they all were before" */
    private static void shiftOverItself() {
        NoGraveEnemy x = counted(0, 1, 6);
        due("34 up by one", x.shift(0, 0, 0, 1, 5), 5);
        row("34 up by one", x, 0, 1, 1, 2, 3, 4, 5);
        NoGraveEnemy y = counted(0, 1, 6);
        due("34 down by one", y.shift(0, 1, 0, 0, 5), 5);
        row("34 down by one", y, 0, 2, 3, 4, 5, 6, 6);
        NoGraveEnemy z = counted(0, 1, 6);
        due("34 on its own place", z.shift(0, 0, 0, 0, 6), 6);
        row("34 on its own place", z, 0, 1, 2, 3, 4, 5, 6);
        due("34 up by three", z.shift(0, 0, 0, 3, 3), 3);
        row("34 up by three", z, 0, 1, 2, 3, 1, 2, 3);
    }

    private static void shiftOfNone() {
        NoGraveEnemy x = counted(0, 0, 3);
        x.tape(1, 0, 2);
        for (int i = 0; i <= 3; i++) {
            for (int j = 0; j <= 2; j++) {
                due("34 none, from " + i + " to " + j, x.shift(0, i, 1, j, 0), 0);
            }
        }
        due("34 none, beyond the one's end", x.shift(0, 4, 1, 0, 0), -13);
        due("34 none, beyond the other's end", x.shift(0, 0, 1, 3, 0), -13);
        due("34 none, i below 0", x.shift(0, -1, 1, 0, 0), -13);
        due("34 none, j below 0", x.shift(0, 0, 1, -1, 0), -13);
        x.tape(2, 0, 0);
        due("34 none of a row of none", x.shift(2, 0, 0, 0, 0), 0);
        due("34 one of a row of none", x.shift(2, 0, 0, 0, 1), -13);
        row("34 as it was", x, 1, 0, 0);
    }

    /** "PLACE: n, i or j is below 0, or beyond either's end." */
    private static void shiftBeyond() {
        int[][] beyond = {
            {0, 0, -1}, {-1, 0, 1}, {0, -1, 1}, {0, 0, 4}, {3, 0, 3}, {0, 2, 2}, {5, 0, 1}, {0, 3, 1}, {6, 0, 0},
            {-1, 0, 0}, {1, 1, -1}, {TOP, 0, 1}, {0, TOP, 1}, {0, 0, TOP}, {1, 0, TOP}, {0, 1, TOP}, {TOP, TOP, TOP},
            {LOW, 0, 1}, {0, LOW, 1}, {0, 0, LOW}, {LOW, LOW, LOW}, {TOP, 0, LOW}, {5, 3, -2}
        };
        NoGraveEnemy x = counted(0, 2, 5);
        x.tape(1, 2, 3);
        for (int[] at : beyond) {
            String call = "34 from " + at[0] + " to " + at[1] + ", " + at[2];
            due(call, x.shift(0, at[0], 1, at[1], at[2]), -13);
        }
        row("34 as it was", x, 1, 0, 0, 0);
        due("34 three fit", x.shift(0, 2, 1, 0, 3), 3);
        row("34 three", x, 1, 3, 4, 5);
    }

    /** "NONE: tapes; NOTHING; CAST: of unlike sorts; PLACE .." */
    private static void shiftAnswersFirst() {
        NoGraveEnemy x = counted(0, 2, 5);
        x.tape(1, 3, 5);
        due("34 NONE ahead of all", x.shift(6, -1, 5, -1, -1), -1);
        due("34 NONE of the other ahead of NOTHING", x.shift(5, -1, 6, -1, -1), -1);
        due("34 NOTHING ahead of PLACE", x.shift(5, -1, 0, -1, -1), -11);
        due("34 NOTHING of the other", x.shift(0, -1, 5, -1, -1), -11);
        due("34 NOTHING of both", x.shift(5, 0, 4, 0, 0), -11);
        due("34 NOTHING of the same", x.shift(5, 0, 5, 0, 0), -11);
        due("34 CAST ahead of PLACE", x.shift(0, -1, 1, -1, -1), -12);
        due("34 CAST though none", x.shift(0, 0, 1, 0, 0), -12);
        due("34 PLACE", x.shift(0, -1, 0, 0, 1), -13);
    }

    private static void shiftOfEachSort() {
        for (int sort = 0; sort <= 4; sort++) {
            for (int other = 0; other <= 4; other++) {
                NoGraveEnemy x = new NoGraveEnemy();
                x.tape(0, sort, 2);
                x.tape(1, other, 2);
                x.item(0, 1, -1);
                boolean isLike = sort == other;
                due("34 sort " + sort + " to " + other, x.shift(0, 1, 1, 0, 1), isLike ? 1 : -12);
                due("34 what came", x.read(1, 0), !isLike ? 0 : sort == 4 ? 1 : -1);
            }
        }
    }
}
