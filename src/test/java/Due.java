/** Counts and prints the answers that are not as due. */
final class Due {
    private static int wrong = 0;
    private static int looked = 0;

    private Due() {
    }

    static void due(String call, long got, long want) {
        looked++;
        if (got != want) {
            wrong++;
            System.out.println(call + " answered " + got + ", due is " + want);
        }
    }

    static void feed(NoGraveEnemy x, String text) {
        for (int i = 0; i < text.length(); i++) {
            x.feed(text.charAt(i));
        }
    }

    static int parish(NoGraveEnemy x, String text) {
        feed(x, text);
        return x.parish();
    }

    /** A new object with PEOPLE of these KINDS, all with v 0. */
    static NoGraveEnemy of(int... kinds) {
        NoGraveEnemy x = new NoGraveEnemy();
        for (int kind : kinds) {
            x.one(kind, 0);
        }
        return x;
    }

    static void end() {
        System.out.println(wrong == 0 ? looked + " answers are as due" : wrong + " of " + looked + " are not as due");
        if (wrong != 0) {
            System.exit(1);
        }
    }
}
