/** One method a promise: ordinary inputs, the edges that the document names, wrong inputs. */
public final class PromiseTests {
    private static final long NO = NoGraveEnemy.NO;
    private static final int[] EVERY_KIND = {0, 1, 2, 3, 4, 5};
    private static final int TOP = Integer.MAX_VALUE;
    private static final int LOW = Integer.MIN_VALUE;

    private PromiseTests() {
    }

    private static void due(String call, long got, long want) {
        Due.due(call, got, want);
    }

    public static void main(String[] args) {
        constants();
        promise1();
        promise2();
        promise3();
        promise4();
        promise5();
        promise5Kinds();
        promise6();
        promise7();
        promise8();
        promise9();
        promise9Faults();
        promise9Meaning();
        promise10();
        promise11();
        promise12();
        promise13();
        promise14();
        promise15();
        promise16();
        promise17();
        promise18();
        promise19();
        promise20();
        promise21();
        promise22();
        promise23();
        promise24();
        promise25And26();
        promise27And28();
        promise29();
        promise30();
        promise31();
        promise32And33();
        promise34();
        Due.end();
    }

    private static void constants() {
        due("NONE", NoGraveEnemy.NONE, -1);
        due("BAD", NoGraveEnemy.BAD, -2);
        due("STATE", NoGraveEnemy.STATE, -3);
        due("FULL", NoGraveEnemy.FULL, -4);
        due("NO", NoGraveEnemy.NO, Long.MIN_VALUE);
    }

    private static void promise1() {
        NoGraveEnemy x = new NoGraveEnemy();
        for (int what = 0; what <= 6; what++) {
            due("1 count " + what, x.count(what), 0);
        }
        due("1 DAY", x.told(0), 0);
        due("1 NEED", x.told(1), 30);
        due("1 undo", x.undo(), -3);
        due("1 KEEP of nobody", x.told(6), 0);
        due("1 LONGEST of nobody", x.told(7), 0);
        due("1 TAPE", x.read(0, 0), NO);
    }

    private static void promise2() {
        NoGraveEnemy x = new NoGraveEnemy();
        due("2 kind -1", x.one(-1, 99), -1);
        due("2 kind 7", x.one(7, 0), -1);
        due("2 v -1", x.one(0, -1), -2);
        due("2 v 10", x.one(6, 10), -2);
        due("2 refused changes nothing", x.count(0), 0);
        for (int n = 0; n < 6; n++) {
            due("2 number", x.one(6 - n, 9 - n), n);
        }
        due("2 full", x.one(0, 0), -4);
        due("2 full, but NONE first", x.one(7, 0), -1);
        due("2 full, but BAD first", x.one(0, 10), -2);
        for (int n = 0; n < 6; n++) {
            due("2 KIND", x.of(n, 0), 6 - n);
            due("2 v", x.of(n, 1), 9 - n);
        }
    }

    private static void promise3() {
        NoGraveEnemy x = new NoGraveEnemy();
        x.one(3, 7);
        x.one(0, 2);
        x.one(0, 1);
        x.hate(0, 1, 23);
        x.hate(2, 1, 30);
        due("3 nobody", x.of(3, 0), -1);
        due("3 below", x.of(-1, 0), -1);
        due("3 what", x.of(0, 7), -1);
        due("3 what below", x.of(0, -1), -1);
        due("3 wild", x.of(LOW, TOP), -1);
        due("3 KIND", x.of(0, 0), 3);
        due("3 v", x.of(0, 1), 7);
        due("3 DEAD", x.of(1, 2), 0);
        due("3 ENEMIES", x.of(1, 5), 5);
        due("3 ENEMIES none", x.of(0, 5), 0);
        due("3 LIES, not DEAD", x.of(1, 6), -5);
        x.die(1, true);
        due("3 DEAD then", x.of(1, 2), 1);
        due("3 BURIED not yet", x.of(1, 3), 0);
        due("3 LIES a day", x.of(1, 6), 1);
        x.die(0, true);
        due("3 ENEMIES but not the DEAD", x.of(1, 5), 4);
        due("3 LIES for good", x.of(0, 6), -5);
        x.pass(1);
        due("3 BURIED", x.of(1, 3), 1);
        due("3 THROWN", x.of(2, 4), 1);
        due("3 THROWN by no other", x.of(0, 4), 0);
        due("3 LIES already", x.of(1, 6), 0);
        NoGraveEnemy y = Due.of(1, 0);
        y.hate(0, 1, 30);
        y.die(1, true);
        y.pass(0);
        due("3 LIES 1 on day 0", y.of(1, 6), 1);
        y.hate(0, 1, 29);
        due("3 LIES never", y.of(1, 6), -5);
        NoGraveEnemy z = Due.of(0, 0);
        Due.parish(z, "sting 99 d=9;balm 99 d<9;need 50");
        z.die(1, true);
        due("3 LIES 10", z.of(1, 6), 10);
        z.pass(9);
        due("3 LIES 1", z.of(1, 6), 1);
        due("3 asked changes nothing", z.of(1, 3), 0);
        NoGraveEnemy far = Due.of(6, 0);
        Due.parish(far, "need 0;balm 35 d>9;balm 35 d<9");
        far.die(1, true);
        far.hate(0, 1, 0);
        due("3 LIES at d 9", far.of(1, 6), 10);
        NoGraveEnemy month = Due.of(1, 0);
        Due.parish(month, "sting 50 d=9;need 50");
        month.die(1, true);
        month.pass(19);
        due("3 LIES beyond 30", month.of(1, 6), -5);
        month.pass(1);
        due("3 LIES 30", month.of(1, 6), 30);
    }

    private static void promise4() {
        NoGraveEnemy x = Due.of(0, 0);
        due("4 was", x.hate(0, 1, 99), 0);
        due("4 was then", x.hate(0, 1, 0), 99);
        due("4 the other way", x.hate(1, 0, 5), 0);
        due("4 n 100", x.hate(0, 1, 100), -2);
        due("4 n -1", x.hate(0, 1, -1), -2);
        due("4 both", x.hate(1, 1, 5), -2);
        due("4 NONE one", x.hate(2, 1, 100), -1);
        due("4 NONE other", x.hate(0, 2, 100), -1);
        due("4 NONE both", x.hate(2, 2, 5), -1);
        due("4 NONE below", x.hate(-1, 0, 5), -1);
        due("4 refused changes nothing", x.hate(0, 1, 7), 0);
        due("4 HATE", x.between(0, 1, 0), 7);
        due("4 HATE back", x.between(1, 0, 0), 5);
    }

    private static void promise5() {
        NoGraveEnemy x = Due.of(0, 0, 1);
        x.hate(0, 1, 30);
        x.hate(2, 1, 33);
        due("5 HATE", x.between(0, 1, 0), 30);
        due("5 SPITE", x.between(0, 1, 1), 30);
        due("5 ENEMY", x.between(0, 1, 2), 1);
        due("5 ENEMY not back", x.between(1, 0, 2), 0);
        due("5 FOR HOW LONG at most", x.between(0, 1, 3), 30);
        due("5 FOR HOW LONG of a MILD", x.between(2, 1, 3), 4);
        x.pass(3);
        due("5 FOR HOW LONG later", x.between(2, 1, 3), 1);
        x.pass(1);
        due("5 no ENEMY, no days", x.between(2, 1, 3), 0);
        x.die(0, true);
        due("5 who is DEAD has SPITE", x.between(0, 1, 1), 30);
        due("5 who is DEAD is no ENEMY", x.between(0, 1, 2), 0);
        due("5 who is DEAD, for no day", x.between(0, 1, 3), 0);
        due("5 NONE one", x.between(3, 0, 0), -10001);
        due("5 NONE other", x.between(0, -1, 0), -10001);
        due("5 NONE what", x.between(0, 1, 4), -10001);
        due("5 NONE what below", x.between(0, 1, -1), -10001);
        due("5 NONE before BAD", x.between(0, 0, 4), -10001);
        due("5 BAD", x.between(0, 0, 3), -10002);
    }

    private static void promise5Kinds() {
        NoGraveEnemy x = new NoGraveEnemy();
        for (int kind = 0; kind <= 5; kind++) {
            x.one(kind, 4);
            x.hate(kind, kind == 0 ? 1 : 0, 51);
        }
        for (int kind = 1; kind <= 5; kind++) {
            x.hate(kind, 0, 51);
        }
        x.hate(0, 1, 51);
        int[] first = {51, 51, 51, 55, 43, 51};
        int[] third = {51, 48, 25, 55, 40, 25};
        for (int kind = 0; kind <= 5; kind++) {
            due("5 SPITE day 0 of kind " + kind, x.between(kind, kind == 0 ? 1 : 0, 1), first[kind]);
        }
        x.pass(3);
        for (int kind = 0; kind <= 5; kind++) {
            due("5 SPITE day 3 of kind " + kind, x.between(kind, kind == 0 ? 1 : 0, 1), third[kind]);
        }
        x.pass(4);
        due("5 MILD day 7", x.between(1, 0, 1), 51);
        due("5 FRIEND day 7", x.between(4, 0, 1), 43);
        x.pass(1);
        due("5 FRIEND day 8", x.between(4, 0, 1), 42);
        NoGraveEnemy y = new NoGraveEnemy();
        y.one(5, 0);
        y.one(6, 3);
        y.one(2, 9);
        y.hate(0, 1, 10);
        y.hate(1, 0, 10);
        y.row(1, 0, 9);
        y.row(1, 1, 8);
        y.row(1, 3, 7);
        due("5 HIRED for a greater number", y.between(0, 1, 1), 30);
        int[] rows = {9, 8, 0, 7, 9};
        for (int day = 0; day < 5; day++) {
            due("5 TOLD day " + day, y.between(1, 0, 1), 13 + rows[day]);
            y.pass(1);
        }
        due("5 HIRED, odd", y.between(0, 1, 1), 25);
        Due.parish(y, "balm 5 p=2");
        due("5 half, cut toward 0", y.between(2, 0, 1), -2);
        y.pass(1);
        due("5 whole", y.between(2, 0, 1), -5);
    }

    private static void promise6() {
        NoGraveEnemy x = Due.of(0, 0);
        x.hate(0, 1, 40);
        due("6 NONE", x.die(2, true), -1);
        due("6 NONE below", x.die(-1, false), -1);
        due("6 not before", x.die(1, true), 0);
        due("6 before", x.die(1, true), 1);
        due("6 bits", x.told(2), 2);
        x.pass(1);
        due("6 BURIED", x.told(3), 2);
        due("6 DEAD again", x.die(1, true), 1);
        due("6 stays BURIED", x.told(3), 2);
        due("6 back", x.die(1, false), 1);
        due("6 not BURIED then", x.told(3), 0);
        due("6 not DEAD then", x.told(2), 0);
        due("6 back again", x.die(1, false), 0);
        x.die(1, true);
        x.pass(1);
        due("6 nobody hates any longer", x.told(3), 0);
    }

    private static void promise7() {
        NoGraveEnemy x = Due.of(6, 3);
        due("7 was", x.row(0, 3, 9), 0);
        due("7 was then", x.row(0, 3, 1), 9);
        due("7 another part", x.row(0, 2, 1), 0);
        due("7 NONE person", x.row(2, 0, 10), -1);
        due("7 NONE part", x.row(1, 4, 10), -1);
        due("7 NONE part below", x.row(0, -1, 0), -1);
        due("7 BAD", x.row(1, 0, 10), -2);
        due("7 BAD below", x.row(0, 0, -1), -2);
        due("7 STATE", x.row(1, 0, 9), -3);
        due("7 refused changes nothing", x.row(0, 3, 0), 1);
    }

    private static void promise8() {
        NoGraveEnemy x = new NoGraveEnemy();
        due("8 -1", x.feed(-1), -2);
        due("8 128", x.feed(128), -2);
        for (int n = 1; n <= 100; n++) {
            due("8 sign", x.feed(n == 1 ? 0 : 127), n);
        }
        due("8 full", x.feed(65), -4);
        due("8 BAD before FULL", x.feed(128), -2);
        due("8 bytes", x.count(5), 100);
        due("8 FAULT at once", x.parish(), -10);
        due("8 empty then", x.feed(65), 1);
    }

    private static void promise9() {
        NoGraveEnemy x = Due.of(0, 0);
        due("9 empty", x.parish(), -10);
        for (int n = 0; n < 6; n++) {
            due("9 number", Due.parish(x, "need " + (n + 1)), n);
            due("9 NEED", x.told(1), n + 1);
            due("9 empty then", x.count(5), 0);
            due("9 a FAULT", Due.parish(x, "need x"), n == 5 ? -4 : -15);
            due("9 held holds", x.told(1), n + 1);
        }
        due("9 THE TEXT stays", x.count(5), 6);
        due("9 PARISHES", x.count(1), 6);
        NoGraveEnemy y = Due.of(0, 0);
        due("9 last NEED", Due.parish(y, "need 7;need 08"), 0);
        due("9 last NEED holds", y.told(1), 8);
        due("9 without NEED", Due.parish(y, "sting 1 p=0"), 1);
        due("9 30 then", y.told(1), 30);
    }

    private static void fault(String text, int place) {
        NoGraveEnemy x = new NoGraveEnemy();
        due("9 FAULT of '" + text + "'", Due.parish(x, text), -10 - place);
        due("9 no PARISH of '" + text + "'", x.count(1), 0);
        due("9 empty after '" + text + "'", x.count(5), 0);
    }

    private static void good(String text) {
        NoGraveEnemy x = new NoGraveEnemy();
        due("9 PARISH of '" + text + "'", Due.parish(x, text), 0);
        due("9 count of '" + text + "'", x.count(1), 1);
    }

    private static void promise9Faults() {
        fault("x", 0);
        fault("needy", 4);
        fault("need", 4);
        fault("need ", 5);
        fault("need  1", 5);
        fault("need 123", 7);
        fault("need 1;", 7);
        fault("need 1;;", 7);
        fault("need 1 ", 6);
        fault("sting 1", 7);
        fault("sting 1 ", 8);
        fault("sting 12p=1", 8);
        fault("sting 1 p", 9);
        fault("sting 1 p=", 10);
        fault("sting 1 p==1", 10);
        fault("sting 1 p=123", 12);
        fault("sting 1 p=1&", 12);
        fault("sting 1 p=1&|", 12);
        fault("sting 1 p=1)", 11);
        fault("sting 1 (p=1", 12);
        fault("sting 1 (p=1;", 12);
        fault("sting 1 ()", 9);
        fault("sting 1 !", 9);
        fault("sting 1 !&", 9);
        fault("sting 1 x=1", 8);
        fault("Sting 1 p=1", 0);
        fault("balm 1 !!!!!p=1", 11);
        fault("balm 1 !(!(!p=1))", 11);
        fault("balm 1 ((((p=1)&(p=1)|((p=1)))))", 23);
        fault("need 1;need 1;need 1;need 1;need 1;need 1;need 1;need 1;need 1;need 1;need 1", 69);
        fault("need 1\0", 6);
        good("need 1;need 1;need 1;need 1;need 1;need 1;need 1;need 1;need 1;need 1");
        good("balm 1 !!!!p=1");
        good("balm 1 !(!(p=1))&((((k>0))))|!!!!d<9");
        good("sting 0 p=1;balm 00 q=00;need 00");
        StringBuilder hundred = new StringBuilder("sting 1 p=1");
        while (hundred.length() < 99) {
            hundred.append("&p=1");
        }
        fault(hundred.substring(0, 99) + "&", 100);
        fault(hundred.substring(0, 97), 97);
        good(hundred.substring(0, 99));
    }

    private static int sum(String text, int day) {
        NoGraveEnemy x = new NoGraveEnemy();
        x.one(0, 3);
        x.one(0, 5);
        x.one(3, 7);
        x.hate(1, 2, 59);
        x.hate(2, 0, 60);
        Due.parish(x, text);
        x.pass(day);
        return x.between(1, 2, 1) - 59;
    }

    private static void promise9Meaning() {
        due("9 sting p", sum("sting 12 p=1", 0), 12);
        due("9 balm q", sum("balm 12 q=2", 0), -12);
        due("9 k", sum("sting 1 k=0;sting 2 k>0", 0), 1);
        due("9 v", sum("sting 1 v<5;sting 2 v=5;sting 4 v>5", 0), 2);
        due("9 h", sum("sting 1 h<5;sting 2 h=5;sting 4 h>5", 0), 2);
        NoGraveEnemy third = Due.of(0, 3, 0);
        Due.parish(third, "sting 1 k=3;sting 2 k<3;sting 4 k>3;sting 8 q=2;sting 16 q<2");
        due("9 k of another KIND", third.between(1, 2, 1), 9);
        due("9 q of another", third.between(2, 1, 1), 18);
        due("9 d", sum("sting 1 d=0;sting 2 d=3", 23), 2);
        due("9 < is strict", sum("sting 1 p<1;sting 2 p<2;sting 4 p>0;sting 8 p>1", 0), 6);
        due("9 & before |", sum("sting 1 p=1|p=1&p=0", 0), 1);
        due("9 & of | and |", sum("sting 1 (p=0|p=1)&(p=1|p=0);sting 2 (p=1|p=0)&(p=0|p=0)", 0), 1);
        due("9 | of & and &", sum("sting 1 p=0&p=1|p=1&p=0;sting 2 p=1&p=1|p=1&p=0", 0), 2);
        due("9 & before |, other way", sum("sting 1 p=0&p=1|p=1", 0), 1);
        due("9 ( )", sum("sting 1 (p=1|p=1)&p=0", 0), 0);
        due("9 ! binds nearest", sum("sting 1 !p=0&p=1;sting 2 !p=1|p=1;sting 4 !(p=1|p=0)", 0), 3);
        due("9 !!", sum("sting 1 !!p=1;sting 2 !!!p=1", 0), 1);
        due("9 long", sum("sting 1 p=0|p=0|p=0|p=1;sting 2 p=1&p=1&p=1&p=0", 0), 1);
        due("9 two digits", sum("sting 99 d<10;balm 98 d<09", 5), 1);
        NoGraveEnemy x = Due.of(0, 0);
        Due.parish(x, "sting 50 p=0");
        due("9 ENEMY by a text", x.between(0, 1, 2), 1);
        Due.parish(x, "sting 50 p=1");
        due("9 newest holds", x.between(0, 1, 2), 0);
        due("9 newest holds back", x.between(1, 0, 2), 1);
    }

    private static void promise10() {
        NoGraveEnemy x = Due.of(0, 0, 0, 0);
        x.hate(0, 1, 30);
        x.hate(1, 0, 30);
        x.hate(0, 2, 40);
        x.hate(2, 1, 50);
        due("10 NONE", x.told(8), -1);
        due("10 NONE below", x.told(-1), -1);
        due("10 HATE", x.told(4), 150);
        due("10 LONELY", x.told(5), 8);
        due("10 no KEEP", x.told(6), -5);
        NoGraveEnemy alone = Due.of(0, 0, 0);
        due("10 all LONELY", alone.told(5), 7);
        alone.hate(0, 1, 30);
        due("10 the first and the last LONELY", alone.told(5), 5);
        due("10 LONGEST", x.told(7), 2);
        x.hate(2, 3, 30);
        due("10 LONELY none", x.told(5), 0);
        due("10 KEEP", x.told(6), 7);
        x.hate(1, 3, 30);
        due("10 KEEP fewer", x.told(6), 3);
        x.hate(1, 2, 30);
        x.hate(2, 0, 30);
        x.hate(3, 0, 30);
        x.hate(3, 1, 30);
        x.hate(3, 2, 30);
        due("10 KEEP least bits", x.told(6), 3);
        x.hate(0, 2, 0);
        x.hate(1, 2, 0);
        due("10 KEEP least bits, one more needed", x.told(6), 10);
        x.die(3, true);
        due("10 DEAD", x.told(2), 8);
        due("10 LONELY without the DEAD", x.told(5), 4);
        x.pass(1);
        due("10 BURIED", x.told(3), 8);
        due("10 DAY", x.told(0), 1);
        x.die(0, true);
        x.die(1, true);
        x.die(2, true);
        due("10 all DEAD: nobody LONELY", x.told(5), 0);
        due("10 all DEAD: KEEP none of them", x.told(6), 0);
        due("10 all DEAD: LONGEST", x.told(7), 0);
    }

    private static void promise11() {
        NoGraveEnemy x = Due.of(0, 0, 0, 0);
        due("11 BAD", x.pass(-1), -2);
        due("11 BAD above", x.pass(61), -2);
        due("11 none", x.pass(0), 0);
        due("11 60", x.pass(60), 60);
        for (int n = 2; n <= 166; n++) {
            x.pass(60);
        }
        due("11 DAY", x.told(0), 9960);
        due("11 STATE", x.pass(40), -3);
        due("11 BAD before STATE", x.pass(61), -2);
        due("11 to the end", x.pass(39), 9999);
        due("11 STATE at the end", x.pass(1), -3);
        due("11 none at the end", x.pass(0), 9999);
        NoGraveEnemy y = Due.of(0, 0, 0, 0);
        y.hate(0, 2, 30);
        y.hate(0, 3, 30);
        y.hate(1, 3, 29);
        y.die(2, true);
        y.die(3, true);
        y.pass(1);
        due("11 one handful a day", y.told(3), 4);
        due("11 HATE is 0 then", y.between(0, 2, 0), 0);
        due("11 HATE for another stays", y.between(0, 3, 0), 30);
        y.pass(1);
        due("11 the next on the next day", y.told(3), 12);
        due("11 THROWN twice", y.of(0, 4), 2);
        due("11 who is no ENEMY does not throw", y.of(1, 4), 0);
        NoGraveEnemy z = Due.of(0, 0, 0, 0);
        z.hate(0, 1, 30);
        z.hate(2, 1, 30);
        z.hate(3, 1, 30);
        z.hate(1, 0, 90);
        z.die(0, true);
        z.die(1, true);
        z.pass(1);
        due("11 the first who is not DEAD", z.of(2, 4), 1);
        due("11 the DEAD bury nobody", z.told(3), 2);
        NoGraveEnemy w = Due.of(0, 0, 0, 0, 0, 0);
        for (int one = 3; one < 6; one++) {
            for (int other = 0; other < 3; other++) {
                w.hate(one, other, 30);
                w.die(other, true);
            }
        }
        due("11 nobody throws twice", w.handful(0), 3);
        due("11 the first of all", w.handful(10), 3);
        due("11 the next of all", w.handful(11), 4);
        due("11 the last of all", w.handful(12), 5);
        w.pass(1);
        due("11 three on a DAY", w.told(3), 7);
        due("11 each by another", w.of(3, 4) * 100 + w.of(4, 4) * 10 + w.of(5, 4), 111);
    }

    private static void promise12() {
        NoGraveEnemy x = Due.of(0, 0, 1);
        Due.parish(x, "need 30;balm 40 d<3");
        x.hate(0, 1, 45);
        x.hate(2, 1, 35);
        x.die(1, true);
        due("12 BURIED not yet", x.on(3, 0), 0);
        due("12 BURIED", x.on(4, 0), 2);
        due("12 THROWN before", x.on(3, 10), 0);
        due("12 THROWN", x.on(4, 10), 1);
        due("12 HATE before", x.on(3, 21), 45);
        due("12 HATE", x.on(4, 21), 0);
        due("12 HATE of another", x.on(4, 33), 35);
        due("12 HATE for itself", x.on(4, 20), 0);
        due("12 at most 30", x.on(30, 0), 2);
        due("12 none", x.on(0, 0), 0);
        due("12 none, HATE", x.on(0, 21), 45);
        due("12 BAD", x.on(31, 0), -2);
        due("12 BAD below", x.on(-1, 0), -2);
        for (int what : new int[] {1, 9, 13, 19, 23, 38, 56, -1, TOP, LOW, LOW + 9, LOW + 19}) {
            due("12 NONE " + what, x.on(31, what), -1);
        }
        due("12 DAY stays", x.told(0), 0);
        due("12 nobody BURIED now", x.told(3), 0);
        NoGraveEnemy y = Due.of(0, 0);
        for (int n = 0; n < 166; n++) {
            y.pass(60);
        }
        y.pass(39);
        y.hate(0, 1, 99);
        y.die(1, true);
        due("12 beyond day 9999", y.on(30, 0), 2);
        due("12 day 9999 stays", y.told(0), 9999);
    }

    private static void promise13() {
        NoGraveEnemy x = Due.of(EVERY_KIND);
        Due.parish(x, "need 50");
        x.hate(0, 3, 60);
        x.hate(1, 3, 70);
        x.hate(0, 4, 60);
        x.hate(2, 5, 60);
        due("13 nobody to be BURIED", x.handful(0), 0);
        due("13 nobody throws", x.handful(13), -5);
        x.die(3, true);
        due("13 the first", x.handful(13), 0);
        x.die(4, true);
        due("13 both", x.handful(0), 2);
        due("13 another for the first", x.handful(13), 1);
        due("13 the one for the second", x.handful(14), 0);
        x.die(5, true);
        due("13 all", x.handful(0), 3);
        due("13 the third", x.handful(15), 2);
        due("13 who is not DEAD", x.handful(10), -5);
        x.hate(1, 3, 0);
        due("13 one has none", x.handful(0), 2);
        due("13 the first of several", x.handful(13), 0);
        due("13 none then", x.handful(14), -5);
        x.pass(1);
        due("13 who is BURIED needs none", x.handful(13), -5);
        due("13 only the last", x.handful(0), 1);
        for (int what : new int[] {-1, 1, 9, 16, TOP, LOW, LOW + 9, LOW + 12}) {
            due("13 NONE " + what, x.handful(what), -1);
        }
    }

    private static void promise14() {
        NoGraveEnemy x = Due.of(0, 0, 0);
        x.hate(0, 1, 30);
        x.hate(1, 2, 30);
        x.hate(2, 0, 30);
        due("14 none", x.orders(0), 1);
        due("14 one", x.orders(1), 3);
        due("14 two", x.orders(2), 3);
        due("14 three", x.orders(3), 0);
        due("14 six", x.orders(6), 0);
        due("14 BAD", x.orders(7), -2);
        due("14 BAD below", x.orders(-1), -2);
        x.die(0, true);
        due("14 the DEAD neither die nor hate", x.orders(1), 1);
        due("14 LONGEST", x.told(7), 1);
        NoGraveEnemy y = Due.of(0, 0, 0, 0, 0, 0);
        for (int one = 0; one < 6; one++) {
            for (int other = 0; other < 6; other++) {
                y.hate(one, other, 30);
            }
        }
        due("14 all hate all", y.orders(5), 720);
        due("14 all but the last", y.told(7), 5);
        due("14 nobody for the last", y.orders(6), 0);
        NoGraveEnemy z = Due.of(0, 0, 1);
        z.hate(2, 0, 30);
        z.hate(2, 1, 31);
        due("14 on its DAY", z.orders(2), 1);
        z.pass(1);
        due("14 a DAY later", z.orders(2), 0);
        due("14 a DAY later, one", z.orders(1), 1);
        NoGraveEnemy w = Due.of(1, 0, 0);
        w.hate(0, 1, 31);
        w.hate(2, 0, 30);
        due("14 an ENEMY who died is none", w.orders(2), 1);
    }

    private static void promise15() {
        NoGraveEnemy x = Due.of(0, 0);
        due("15 none", x.see(-1, 77, -4, true), 0);
        due("15 NONE one", x.see(2, 0, 21, true), -1);
        due("15 NONE one below", x.see(-2, 0, 0, true), -1);
        due("15 NONE other", x.see(0, 2, 21, true), -1);
        due("15 BAD both", x.see(0, 0, 0, true), -2);
        due("15 BAD n", x.see(0, 1, 21, true), -2);
        due("15 BAD n below", x.see(0, 1, -1, true), -2);
        for (int n = 1; n <= 5; n++) {
            due("15 how many", x.see(0, 1, n * 4, n % 2 == 0), n);
        }
        due("15 FULL", x.see(0, 1, 0, true), -4);
        due("15 BAD before FULL", x.see(0, 1, 21, true), -2);
        due("15 count", x.count(2), 5);
        due("15 none then", x.see(-1, 0, 0, false), 0);
        due("15 count then", x.count(2), 0);
        due("15 from the first on", x.see(1, 0, 20, false), 1);
    }

    private static void promise16() {
        NoGraveEnemy x = Due.of(0, 1, 0);
        due("16 nothing SEEN: all", x.hates(0, 1, 0), 100);
        due("16 nothing SEEN: 0", x.hates(0, 1, 1), 0);
        x.see(0, 1, 0, true);
        due("16 30 and more", x.hates(0, 1, 0), 70);
        due("16 the least", x.hates(0, 1, 1), 30);
        due("16 the other way not", x.hates(1, 0, 0), 100);
        due("16 for another not", x.hates(0, 2, 0), 100);
        x.see(1, 2, 6, true);
        x.see(1, 2, 7, false);
        due("16 none", x.hates(1, 2, 0), 0);
        due("16 no least", x.hates(1, 2, 1), -5);
        x.see(-1, 0, 0, true);
        x.see(1, 2, 6, false);
        x.see(1, 2, 7, true);
        due("16 between two", x.hates(1, 2, 0), 6);
        due("16 between two, least", x.hates(1, 2, 1), 30);
        x.pass(1);
        due("16 from now", x.hates(1, 2, 0), 0);
        due("16 HATE now does not matter", x.hate(1, 2, 35), 0);
        Due.parish(x, "sting 20 h<2;need 30");
        due("16 h is of the number", x.hates(0, 2, 0), 100);
        x.see(0, 2, 0, true);
        due("16 10 to 19, and 30 on", x.hates(0, 2, 0), 80);
        due("16 least by h", x.hates(0, 2, 1), 10);
        x.die(0, true);
        due("16 SPITE of the DEAD", x.hates(0, 2, 0), 80);
        due("16 NONE one", x.hates(3, 3, 0), -1);
        due("16 NONE other", x.hates(0, -1, 0), -1);
        due("16 NONE what", x.hates(0, 0, 2), -1);
        due("16 NONE what below", x.hates(0, 1, -1), -1);
        due("16 BAD", x.hates(0, 0, 1), -2);
    }

    private static void promise17() {
        NoGraveEnemy x = new NoGraveEnemy();
        x.one(3, 0);
        x.one(4, 9);
        x.one(0, 5);
        x.hate(0, 1, 25);
        x.hate(0, 2, 22);
        x.hate(1, 0, 40);
        due("17 nothing SEEN", x.can(0, 0), 10);
        due("17 nothing SEEN, least", x.can(0, 1), 0);
        x.see(0, 1, 0, true);
        due("17 5 and more", x.can(0, 0), 5);
        due("17 least", x.can(0, 1), 5);
        x.see(0, 2, 3, false);
        due("17 5 to 7", x.can(0, 0), 3);
        due("17 of the hate of it", x.can(1, 0), 10);
        x.see(1, 0, 4, true);
        due("17 FRIEND", x.can(1, 0), 4);
        due("17 FRIEND, least", x.can(1, 1), 0);
        x.see(2, 0, 0, true);
        due("17 none", x.can(2, 0), 0);
        due("17 no least", x.can(2, 1), -5);
        Due.parish(x, "sting 30 v=7&p=2");
        due("17 v of the text", x.can(2, 0), 1);
        due("17 v of the text, least", x.can(2, 1), 7);
        due("17 v stays", x.of(2, 1), 5);
        due("17 NONE", x.can(3, 0), -1);
        due("17 NONE what", x.can(0, 2), -1);
        due("17 NONE what below", x.can(0, -1), -1);
    }

    private static void promise18() {
        NoGraveEnemy x = Due.of(0);
        due("18 no others", x.odds(0, 0), NO);
        for (int n = 0; n < 4; n++) {
            x.one(0, 0);
        }
        due("18 none above", x.odds(0, 0), 0);
        due("18 none below", x.odds(0, 1), 1);
        x.hate(2, 0, 30);
        due("18 one ENEMY, above", x.odds(0, 0), 3);
        due("18 one ENEMY, below", x.odds(0, 1), 4);
        x.hate(3, 0, 30);
        due("18 two, above", x.odds(0, 0), 1);
        due("18 two, below", x.odds(0, 1), 1);
        x.die(3, true);
        due("18 DEAD too, above", x.odds(0, 0), 3);
        due("18 DEAD too, below", x.odds(0, 1), 4);
        x.hate(0, 4, 30);
        due("18 the only ENEMY is the first, above", x.odds(4, 0), 3);
        due("18 the only ENEMY is the first, below", x.odds(4, 1), 4);
        x.one(0, 0);
        due("18 of five, below", x.odds(0, 1), 5);
        due("18 part", x.odds(0, 2), NO);
        due("18 part below", x.odds(0, -1), NO);
        due("18 nobody", x.odds(6, 0), NO);
        due("18 nobody below", x.odds(-1, 1), NO);
        NoGraveEnemy y = Due.of(0, 0);
        y.hate(1, 0, 99);
        due("18 the only other", y.odds(0, 0), 0);
        due("18 the only other, below", y.odds(0, 1), 1);
    }

    private static void promise19() {
        NoGraveEnemy x = new NoGraveEnemy();
        due("19 nobody", x.mean(0), NO);
        due("19 nobody below", x.mean(1), NO);
        x.one(0, 0);
        due("19 none above", x.mean(0), 0);
        due("19 none below", x.mean(1), 1);
        x.one(0, 0);
        x.one(0, 0);
        x.one(0, 0);
        x.hate(0, 1, 5);
        x.hate(3, 1, 5);
        due("19 lowest terms, above", x.mean(0), 5);
        due("19 lowest terms, below", x.mean(1), 2);
        x.die(0, true);
        due("19 of the DEAD too", x.mean(0), 5);
        due("19 part", x.mean(2), NO);
        due("19 part below", x.mean(-1), NO);
    }

    private static void promise20() {
        NoGraveEnemy x = Due.of(0);
        due("20 empty", x.plan(-1, 55), 0);
        due("20 NONE what", x.plan(4, 0), -1);
        due("20 NONE what below", x.plan(-2, 0), -1);
        due("20 NONE person", x.plan(1, 1), -1);
        due("20 NONE person 2", x.plan(2, -1), -1);
        due("20 NONE person 3", x.plan(3, 6), -1);
        due("20 a DAY, whoever", x.plan(0, -77), 1);
        for (int n = 2; n <= 10; n++) {
            due("20 how many", x.plan(n % 4, 0), n);
        }
        due("20 FULL", x.plan(0, 0), -4);
        due("20 NONE before FULL", x.plan(1, 1), -1);
        due("20 count", x.count(3), 10);
        due("20 empty then", x.plan(-1, 0), 0);
        due("20 count then", x.count(3), 0);
    }

    private static void promise21() {
        NoGraveEnemy x = Due.of(0, 0, 0);
        x.hate(0, 1, 40);
        x.hate(2, 1, 50);
        x.hate(1, 0, 7);
        x.hate(1, 2, 8);
        due("21 empty", x.ends(0), 0);
        due("21 empty, HATE", x.ends(1), 105);
        x.plan(1, 1);
        due("21 DEAD only", x.ends(0), 0);
        x.plan(0, 0);
        due("21 a DAY", x.ends(0), 2);
        due("21 a DAY, HATE", x.ends(1), 65);
        x.plan(2, 1);
        due("21 HATES of one", x.ends(1), 50);
        x.plan(3, 1);
        due("21 HATES for one", x.ends(1), 0);
        due("21 NONE", x.ends(2), -1);
        due("21 NONE below", x.ends(-1), -1);
        due("21 changes nothing", x.told(4), 105);
        due("21 nobody DEAD", x.told(2), 0);
        x.plan(-1, 0);
        x.plan(3, 1);
        due("21 all others' for it", x.ends(1), 15);
        x.plan(1, 1);
        x.plan(0, 0);
        due("21 nobody hates it", x.ends(0), 0);
        x.plan(-1, 0);
        x.plan(0, 0);
        x.plan(1, 1);
        due("21 in their order", x.ends(0), 0);
        x.hate(0, 2, 30);
        x.plan(1, 2);
        x.plan(0, 0);
        due("21 two DEAD, one to throw", x.ends(0), 2);
        due("21 what is left", x.ends(1), 95);
    }

    private static void promise22() {
        NoGraveEnemy x = Due.of(0, 0);
        due("22 empty", x.book(-1, 9, 900), 0);
        due("22 NONE one", x.book(2, 0, 100), -1);
        due("22 NONE one below", x.book(-2, 0, 0), -1);
        due("22 NONE other", x.book(0, -1, 100), -1);
        due("22 BAD both", x.book(1, 1, 0), -2);
        due("22 BAD", x.book(0, 1, 100), -2);
        due("22 BAD below", x.book(0, 1, -1), -2);
        for (int n = 1; n <= 8; n++) {
            due("22 how many", x.book(n % 2, 1 - n % 2, 99), n);
        }
        due("22 FULL", x.book(0, 1, 0), -4);
        due("22 BAD before FULL", x.book(0, 1, 100), -2);
        due("22 count", x.count(4), 8);
        due("22 empty then", x.book(-1, 0, 0), 0);
        due("22 count then", x.count(4), 0);
    }

    private static void promise23() {
        NoGraveEnemy x = Due.of(0, 0);
        due("23 nothing", x.looked(), -5);
        x.book(0, 1, 0);
        x.book(1, 0, 5);
        x.book(0, 1, 0);
        due("23 the second", x.looked(), 1);
        x.hate(1, 0, 5);
        due("23 none", x.looked(), -5);
        x.hate(0, 1, 1);
        due("23 the first of them", x.looked(), 0);
    }

    private static void promise24() {
        NoGraveEnemy x = new NoGraveEnemy();
        due("24 nobody", x.judge(0, -1), -5);
        x.tape(1, 0, 3);
        due("24 CAST", x.judge(1, 0), -12);
        due("24 NONE", x.judge(6, 0), -1);
        due("24 NONE below", x.judge(-1, 0), -1);
        x.one(0, 0);
        x.one(0, 0);
        x.one(0, 0);
        x.die(1, true);
        due("24 holds nothing", x.judge(0, 0), 100);
        x.tape(0, 4, 5);
        due("24 the second", x.judge(0, 0), 1);
        x.item(0, 2, 1);
        due("24 place 1", x.judge(0, 1), -5);
        due("24 place 2", x.judge(0, 2), 0);
        due("24 place 3", x.judge(0, 3), 1);
        x.item(0, 4, 1);
        due("24 ends ahead", x.judge(0, 3), 102);
        due("24 ends at once", x.judge(0, 5), 100);
        due("24 beyond", x.judge(0, TOP), 100);
        due("24 below 0", x.judge(0, -1), 100);
        due("24 far below 0", x.judge(0, LOW), 100);
        x.tape(0, 4, 0);
        due("24 a row of none", x.judge(0, 0), 100);
        for (int sort = 0; sort < 4; sort++) {
            x.tape(2, sort, 9);
            due("24 CAST " + sort, x.judge(2, -1), -12);
        }
    }

    private static void promise25And26() {
        NoGraveEnemy x = new NoGraveEnemy();
        due("26 none", x.undo(), -3);
        due("25 nobody", x.image(), 0);
        x.one(6, 3);
        x.one(0, 4);
        x.hate(0, 1, 40);
        x.hate(1, 0, 20);
        x.row(0, 2, 5);
        x.see(0, 1, 3, true);
        x.plan(0, 0);
        x.book(0, 1, 40);
        Due.parish(x, "need 33");
        x.die(1, true);
        x.pass(1);
        due("25 two", x.image(), 2);
        x.one(0, 0);
        x.hate(0, 1, 77);
        x.hate(2, 0, 78);
        x.row(0, 2, 6);
        x.see(-1, 0, 0, true);
        x.plan(-1, 0);
        x.plan(1, 1);
        x.plan(1, 1);
        x.book(-1, 0, 0);
        Due.parish(x, "need 44");
        Due.feed(x, "need");
        x.tape(0, 0, 3);
        x.item(0, 0, 9);
        x.act(0, 0, 0);
        x.die(1, false);
        x.die(0, true);
        x.pass(5);
        due("26 two", x.undo(), 2);
        due("26 PEOPLE", x.count(0), 2);
        due("26 DAY", x.told(0), 1);
        due("26 NEED", x.told(1), 33);
        due("26 PARISHES stay", x.count(1), 2);
        due("26 DEAD", x.told(2), 2);
        due("26 BURIED", x.told(3), 2);
        due("26 THROWN", x.of(0, 4), 1);
        due("26 HATE", x.told(4), 20);
        due("26 ROW", x.row(0, 2, 5), 5);
        due("26 SEEN", x.count(2), 1);
        due("26 PLAN", x.count(3), 1);
        due("26 BOOK", x.count(4), 1);
        due("26 LOOKED", x.looked(), 0);
        due("26 THE TEXT stays", x.count(5), 4);
        due("26 TAPES stay", x.read(0, 0), 9);
        due("26 THE TRACE stays", x.trace(0), 71);
        due("26 a new one", x.one(6, 1), 2);
        due("26 a new one hates nobody", x.between(2, 0, 0), 0);
        due("26 a new one's ROW", x.row(2, 2, 1), 0);
        due("26 again", x.undo(), 2);
        due("26 PEOPLE again", x.count(0), 2);
        due("26 the next PARISH", Due.parish(x, " 5"), 2);
        due("26 it holds", x.told(1), 5);
    }

    private static void bodies(NoGraveEnemy x, String call, int... bodies) {
        due("28 how many, " + call, x.count(6), bodies.length);
        for (int n = 0; n < bodies.length; n++) {
            due("28 body " + n + " of " + call, x.trace(n), bodies[n]);
        }
        due("28 no more, " + call, x.trace(bodies.length), -1);
    }

    private static void promise27And28() {
        NoGraveEnemy x = new NoGraveEnemy();
        due("27 nobody", x.act(0, 0, 5), 0);
        for (int kind : new int[] {1, 2, 3, 4, 5, 6}) {
            x.one(kind, kind + 3);
        }
        due("27 MILD casts", x.act(0, 1, 10), 10 - 4 ^ 6);
        bodies(x, "MILD casts", 20, 11, 10);
        due("27 MILD tells", x.act(0, 2, 10), (10 - 4 ^ 6) * 2);
        bodies(x, "MILD tells", 12, 20, 11, 10);
        due("27 SISTER digs", x.act(1, 0, 10), 31);
        bodies(x, "SISTER digs", 30, 10);
        due("27 SISTER casts", x.act(1, 1, 10), 31 - 5);
        due("27 STERN tells", x.act(2, 2, 10), (10 + 2 - 6) * 2 + 1 + 2 - 6);
        bodies(x, "STERN tells", 40, 12, 11, 10, 11, 10);
        due("27 FRIEND digs", x.act(3, 0, 10), -13);
        bodies(x, "FRIEND digs", 50, 10);
        due("27 FRIEND casts", x.act(3, 1, 10), -14 - 7 ^ 6);
        bodies(x, "FRIEND casts", 51, 20, 11, 50, 10);
        due("27 HIRED tells", x.act(4, 2, 10), ((10 - 4) * 3 + 4 - 8) * 2);
        bodies(x, "HIRED tells", 60, 12, 11, 30, 10);
        int told = (10 + 5 ^ 9) - 9 + 2 + 5;
        due("27 TOLD casts", x.act(5, 1, 10), told);
        bodies(x, "TOLD casts", 70, 11, 71, 10, 10);
        due("27 TOLD tells", x.act(5, 2, 10), told * 2 + ((1 + 5 ^ 9) - 9 + 7));
        bodies(x, "TOLD tells", 40, 12, 70, 11, 71, 10, 10, 70, 11, 71, 10, 10);
        due("28 NONE below", x.trace(-1), -1);
        due("28 NONE", x.trace(20), -1);
        due("27 wraps", x.act(5, 0, TOP), TOP + 5 ^ 9);
        due("27 wraps, SISTER", x.act(1, 0, TOP), TOP * 3 + 1);
        due("27 wraps, HIRED", x.act(4, 2, LOW), ((LOW - 4) * 3 + 4 - 8) * 2);
        due("27 no such act", x.act(0, 3, 5), 0);
        bodies(x, "no such act");
        x.act(0, 0, 0);
        due("27 no such act below", x.act(0, -1, 5), 0);
        bodies(x, "no such act below");
        x.act(0, 0, 0);
        due("27 no such one", x.act(6, 0, 5), 0);
        bodies(x, "no such one");
        NoGraveEnemy y = new NoGraveEnemy();
        y.one(0, 9);
        due("27 ONE digs", y.act(0, 0, 7), 7);
        due("27 ONE casts", y.act(0, 1, 7), -2);
        due("27 ONE tells", y.act(0, 2, 7), -4);
        bodies(y, "ONE tells", 12, 11, 10);
        y.one(0, 9);
        due("28 what else is called leaves it", y.trace(0), 12);
    }

    private static void promise29() {
        NoGraveEnemy x = Due.of(0, 1, 2, 4, 5, 6);
        int[] kinds = {0, 1, 2, 4, 5, 6};
        int[] sets = {1, 1 | 2, 1 | 4, 1 | 2 | 16, 1 | 4 | 32, 1 | 8 | 64};
        for (int person = 0; person < 6; person++) {
            for (int k = 0; k <= 6; k++) {
                int want = (sets[person] >> k & 1) == 1 ? kinds[person] : -12;
                due("29 " + person + " as " + k, x.taken(person, k), want);
            }
        }
        due("29 BAD", x.taken(9, 7), -2);
        due("29 BAD below", x.taken(0, -1), -2);
        due("29 NOTHING", x.taken(6, 0), -11);
        due("29 NOTHING below", x.taken(-1, 6), -11);
    }

    private static void promise30() {
        NoGraveEnemy x = Due.of(0, 0, 0);
        Due.parish(x, "need 3");
        Due.parish(x, "need 4");
        x.see(0, 1, 2, true);
        x.plan(0, 0);
        x.plan(0, 0);
        for (int n = 0; n < 4; n++) {
            x.book(0, 1, n);
        }
        Due.feed(x, "hello");
        x.act(0, 2, 1);
        int[] want = {3, 2, 1, 2, 4, 5, 3};
        for (int what = 0; what <= 6; what++) {
            due("30 count " + what, x.count(what), want[what]);
        }
        due("30 BAD", x.count(7), -2);
        due("30 BAD below", x.count(-1), -2);
    }

    private static void promise31() {
        NoGraveEnemy x = new NoGraveEnemy();
        due("31 NONE", x.tape(6, 9, -1), -1);
        due("31 NONE below", x.tape(-1, 0, 1), -1);
        due("31 BAD sort", x.tape(0, 5, -1), -2);
        due("31 BAD sort below", x.tape(0, -2, 1), -2);
        due("31 BAD n", x.tape(0, 0, 61), -2);
        due("31 SIZE", x.tape(0, 0, -1), -14);
        due("31 refused", x.read(0, 0), NO);
        for (int sort = 0; sort <= 4; sort++) {
            due("31 made", x.tape(sort, sort, 60), 1);
            due("31 all 0", x.read(sort, 59), 0);
            due("31 no more", x.read(sort, 60), NO);
            x.item(sort, 59, 1);
            due("31 refused leaves it", x.tape(sort, sort, 61), -2);
            due("31 as it was", x.read(sort, 59), 1);
            due("31 made anew", x.tape(sort, 0, 60), 1);
            due("31 all 0 anew", x.read(sort, 59), 0);
        }
        due("31 of none", x.tape(0, 2, 0), 1);
        due("31 of none holds no item", x.item(0, 0, 1), -13);
        due("31 nothing, whatever n", x.tape(0, -1, -500), 1);
        due("31 nothing then", x.item(0, 0, 1), -11);
        due("31 nothing to read then", x.read(0, 0), NO);
    }

    private static void promise32And33() {
        NoGraveEnemy x = new NoGraveEnemy();
        long v = 0x123456789ABCDEF0L;
        long[] want = {(byte) v, (short) v, (int) v, v, 1};
        for (int sort = 0; sort <= 4; sort++) {
            x.tape(sort, sort, 3);
            due("32 put", x.item(sort, 2, v), 1);
            due("33 read", x.read(sort, 2), want[sort]);
            due("33 another", x.read(sort, 1), 0);
            due("32 put -1", x.item(sort, 0, -1), 1);
            due("33 read -1", x.read(sort, 0), sort == 4 ? 1 : -1);
            due("32 put 2^32", x.item(sort, 0, 1L << 32), 1);
            due("33 read 2^32", x.read(sort, 0), sort == 4 ? 1 : sort == 3 ? 1L << 32 : 0);
            due("32 put 0", x.item(sort, 0, 0), 1);
            due("33 read 0", x.read(sort, 0), 0);
            due("32 PLACE", x.item(sort, 3, 0), -13);
            due("32 PLACE below", x.item(sort, -1, 0), -13);
            due("33 NO place", x.read(sort, 3), NO);
            due("33 NO place below", x.read(sort, -1), NO);
        }
        due("32 NOTHING", x.item(5, -1, 0), -11);
        due("32 NONE", x.item(6, 0, 0), -1);
        due("32 NONE below", x.item(-1, 0, 0), -1);
        due("33 NO, nothing there", x.read(5, 0), NO);
        due("33 NO tape", x.read(6, 0), NO);
        due("33 NO tape below", x.read(-1, 0), NO);
    }

    private static void promise34() {
        NoGraveEnemy x = new NoGraveEnemy();
        x.tape(0, 2, 6);
        x.tape(1, 2, 4);
        x.tape(2, 3, 4);
        for (int i = 0; i < 6; i++) {
            x.item(0, i, i + 1);
        }
        due("34 to another", x.shift(0, 3, 1, 1, 3), 3);
        int[] other = {0, 4, 5, 6};
        for (int i = 0; i < 4; i++) {
            due("34 another's " + i, x.read(1, i), other[i]);
        }
        due("34 on itself, up", x.shift(0, 0, 0, 1, 5), 5);
        int[] up = {1, 1, 2, 3, 4, 5};
        for (int i = 0; i < 6; i++) {
            due("34 up " + i, x.read(0, i), up[i]);
        }
        due("34 on itself, down", x.shift(0, 2, 0, 0, 4), 4);
        int[] down = {2, 3, 4, 5, 4, 5};
        for (int i = 0; i < 6; i++) {
            due("34 down " + i, x.read(0, i), down[i]);
        }
        due("34 none at the ends", x.shift(0, 6, 1, 4, 0), 0);
        due("34 n below", x.shift(0, 0, 1, 0, -1), -13);
        due("34 i below", x.shift(0, -1, 1, 0, 1), -13);
        due("34 j below", x.shift(0, 0, 1, -1, 1), -13);
        due("34 beyond the one", x.shift(1, 2, 0, 0, 3), -13);
        due("34 beyond the other", x.shift(0, 0, 1, 0, 5), -13);
        due("34 wild", x.shift(0, TOP, 1, TOP, TOP), -13);
        due("34 wild below", x.shift(0, LOW, 1, LOW, LOW), -13);
        due("34 beyond by none", x.shift(0, 7, 1, 0, 0), -13);
        due("34 CAST", x.shift(0, 0, 2, 0, -1), -12);
        due("34 NOTHING one", x.shift(3, 0, 2, 0, -1), -11);
        due("34 NOTHING other", x.shift(2, 0, 3, 0, 1), -11);
        due("34 NONE one", x.shift(6, 0, 3, 0, 1), -1);
        due("34 NONE other", x.shift(3, 0, -1, 0, 1), -1);
    }
}
