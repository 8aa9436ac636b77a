/** The edges of THE TEXT and of PARISHES: promises 8 and 9. */
public final class EdgeTextTests {
    private static final String[] GOOD = {
        "need 7",
        "need 07;need 99",
        "sting 1 p=0",
        "balm 99 d>09&k<6",
        "sting 3 !(h=1|v<2)&q>3;need 5",
        "balm 4 ((p=1)|!!q=2)&(!(h>9));sting 5 d=0",
        "sting 1 !!!!p=1|((((q=2))))",
        "need 1;need 2;need 3;need 4;need 5;need 6;need 7;need 8;need 9;need 10"
    };

    private EdgeTextTests() {
    }

    private static void due(String call, long got, long want) {
        Due.due(call, got, want);
    }

    public static void main(String[] args) {
        bytesFromEndToEnd();
        hundredBytes();
        endsTooEarly();
        eachByteOtherwise();
        eachByteBetween();
        clausesFromEndToEnd();
        digitsFromEndToEnd();
        oneBlank();
        withinFour();
        withinFourEachOnItsOwn();
        missingParts();
        signsBeside();
        sixParishes();
        fullKeepsTheText();
        faultKeepsTheParish();
        needOfTheLast();
        lettersFromEndToEnd();
        comparesFromEndToEnd();
        hateByTen();
        dayByTen();
        sumOfAll();
        bindings();
        Due.end();
    }

    private static void read(String text, int want) {
        NoGraveEnemy x = new NoGraveEnemy();
        due("9 '" + text + "'", Due.parish(x, text), want);
        due("9 PARISHES by '" + text + "'", x.count(1), want == 0 ? 1 : 0);
        due("9 THE TEXT is empty after '" + text + "'", x.count(5), 0);
    }

    private static void good(String text) {
        read(text, 0);
    }

    private static void fault(String text, int place) {
        read(text, -10 - place);
    }

    /** "A sign (0 .. 127) .. how many it has"; "bytes, 100 at most" */
    private static void bytesFromEndToEnd() {
        NoGraveEnemy x = new NoGraveEnemy();
        due("8 sign -1", x.feed(-1), -2);
        due("8 sign 0", x.feed(0), 1);
        due("8 sign 127", x.feed(127), 2);
        due("8 sign 128", x.feed(128), -2);
        due("8 refused signs are no bytes", x.count(5), 2);
        for (int n = 3; n <= 100; n++) {
            due("8 byte " + n, x.feed(n), n);
        }
        due("8 byte 101", x.feed(0), -4);
        due("8 BAD ahead of FULL", x.feed(-1), -2);
        due("8 BAD ahead of FULL, 128", x.feed(128), -2);
        due("8 a hundred", x.count(5), 100);
        x.parish();
        due("8 the first byte again", x.feed('n'), 1);
    }

    private static void hundredBytes() {
        String text = Scenes.hundred();
        due("9 bytes", text.length(), 100);
        good(text);
        fault(text.substring(0, 97), 97);
        fault(text.substring(0, 99), 99);
        fault(text.substring(0, 99) + "x", 99);
        fault(text.substring(0, 99) + "|", 99);
        fault(text.substring(0, 96) + "&p=", 99);
        fault(text.substring(0, 96) + "|(p=", 100);
        NoGraveEnemy x = Due.of(0, 0);
        Due.feed(x, text);
        due("8 full", x.feed(';'), -4);
        due("9 what was refused is not read", x.parish(), 0);
        due("9 and it holds", x.between(0, 1, 1), 10);
    }

    /** "(the end of THE TEXT, if it ends too early)" */
    private static void endsTooEarly() {
        for (String text : GOOD) {
            for (int end = 0; end <= text.length(); end++) {
                String early = text.substring(0, end);
                Model model = new Model();
                read(early, parish(model, early));
            }
            good(text);
        }
        fault("", 0);
        fault("s", 1);
        fault("nee", 3);
        fault("need", 4);
        fault("need ", 5);
        fault("balm 1", 6);
        fault("balm 1 ", 7);
        fault("balm 1 p", 8);
        fault("balm 1 p<", 9);
        fault("balm 1 (p<1", 11);
        fault("balm 1 !", 8);
        fault("balm 1 (", 8);
        fault("balm 1 p<1|", 11);
        fault("balm 1 p<1&", 11);
        fault("balm 1 p<1;", 11);
    }

    private static int parish(Model model, String text) {
        for (int i = 0; i < text.length(); i++) {
            model.feed(text.charAt(i));
        }
        return model.parish();
    }

    private static void likeTheModel(String text) {
        due("9 '" + text + "'", Due.parish(new NoGraveEnemy(), text), parish(new Model(), text));
    }

    private static void eachByteOtherwise() {
        for (String text : GOOD) {
            for (int at = 0; at < text.length(); at++) {
                for (char sign = 0; sign <= 127; sign++) {
                    likeTheModel(text.substring(0, at) + sign + text.substring(at + 1));
                }
            }
        }
    }

    private static void eachByteBetween() {
        for (String text : GOOD) {
            for (int at = 0; at <= text.length(); at++) {
                for (char sign = 0; sign <= 127; sign++) {
                    likeTheModel(text.substring(0, at) + sign + text.substring(at));
                }
                likeTheModel(text.substring(0, at) + text.substring(Math.min(at + 1, text.length())));
            }
        }
    }

    private static String times(String clause, int n) {
        StringBuilder text = new StringBuilder(clause);
        for (int i = 1; i < n; i++) {
            text.append(';').append(clause);
        }
        return text.toString();
    }

    /** "CLAUSES, 1 to 10, with ; between" */
    private static void clausesFromEndToEnd() {
        fault("", 0);
        fault(";", 0);
        good(times("need 1", 1));
        good(times("need 1", 9));
        good(times("need 1", 10));
        fault(times("need 1", 11), 69);
        fault(times("need 1", 10) + ";", 69);
        fault(times("need 1", 9) + ";", 63);
        fault(times("need 1", 9) + ";x", 63);
        fault(";need 1", 0);
        fault("need 1;;need 1", 7);
        fault("need 1 ;need 1", 6);
        fault("need 1,need 1", 6);
        fault("need 1need 1", 6);
        good("need 1;sting 1 p=1;balm 1 p=1");
        good("balm 1 p=1;need 1;sting 1 p=1");
    }

    /** "n 1 or 2 digits"; "a number (1 or 2 digits)" */
    private static void digitsFromEndToEnd() {
        for (String n : new String[] {"0", "9", "00", "09", "10", "99"}) {
            good("need " + n);
            good("sting " + n + " p=1");
            good("balm " + n + " p=1");
            good("balm 1 p=" + n);
            fault("need " + n + "a", 5 + n.length());
        }
        fault("need a", 5);
        fault("need -1", 5);
        fault("need 100", 7);
        fault("need 000", 7);
        fault("sting  p=1", 6);
        fault("sting 100 p=1", 8);
        fault("balm 000 p=1", 7);
        fault("balm 1 p=100", 11);
        fault("balm 1 p=001", 11);
        fault("balm 1 p=a", 9);
        fault("balm 1 p=/", 9);
        fault("balm 1 p=:", 9);
        fault("balm 1 p=1/", 10);
        fault("balm 1 p=1:", 10);
    }

    /** "one blank ahead of each part behind the word" */
    private static void oneBlank() {
        fault("need1", 4);
        fault("need  1", 5);
        fault("sting1 p=1", 5);
        fault("sting  1 p=1", 6);
        fault("sting 1p=1", 7);
        fault("sting 1  p=1", 8);
        fault("balm1 p=1", 4);
        fault("balm  1 p=1", 5);
        fault("balm 1p=1", 6);
        fault("balm 1  p=1", 7);
        fault(" need 1", 0);
        fault("need 1; need 1", 7);
        fault("balm 1 p =1", 8);
        fault("balm 1 p= 1", 9);
        fault("balm 1 p=1 ", 10);
        fault("balm 1 p=1 |p=1", 10);
        fault("balm 1 ( p=1)", 8);
        fault("need\t1", 4);
    }

    /** "A ( or ! within 4 others is none." */
    private static void withinFour() {
        String[] four = {"!!!!", "!!!(", "!!(!", "!(!!", "(!!!", "((((", "(((!", "((!(", "(!((", "!((("};
        for (String open : four) {
            StringBuilder close = new StringBuilder();
            for (int i = 0; i < 4; i++) {
                close.append(open.charAt(i) == '(' ? ")" : "");
            }
            good("balm 1 " + open + "p=1" + close);
            fault("balm 1 " + open + "!p=1" + close, 11);
            fault("balm 1 " + open + "(p=1)" + close, 11);
            String two = "balm 1 " + open + "p=1&!p=1" + close;
            if (open.endsWith("(")) {
                fault(two, 15);
            } else {
                good(two);
            }
        }
    }

    private static void withinFourEachOnItsOwn() {
        good("balm 1 !!!!p=1&!!!!p=1|!!!!p=1");
        good("balm 1 ((((p=1))))|((((p=1))))");
        good("balm 1 !!!!p=1;balm 1 !!!!p=1;balm 1 ((((p=1))))");
        good("balm 1 (!p=1)&(!p=1)&(!p=1)&(!p=1)&(!p=1)");
        good("balm 1 (((!p=1|!p=1)|!p=1)|!p=1)|!p=1");
        good("balm 1 (((!p=1&(p=1))))&!!!!p=1");
        fault("balm 1 (((!p=1&((p=1)))))", 16);
        fault("balm 1 ((((p=1&!p=1))))", 15);
        fault("balm 1 ((((p=1|(p=1)))))", 15);
        fault("balm 1 p=1|!!!!!p=1", 15);
        fault("need 1;balm 1 !!!!!p=1", 18);
    }

    private static void missingParts() {
        fault("sting 1 ()", 9);
        fault("sting 1 )", 8);
        fault("sting 1 |p=1", 8);
        fault("sting 1 &p=1", 8);
        fault("sting 1 p=1||p=1", 12);
        fault("sting 1 p=1&&p=1", 12);
        fault("sting 1 p=1&|p=1", 12);
        fault("sting 1 p=1p=1", 11);
        fault("sting 1 p=1!p=1", 11);
        fault("sting 1 p=1(p=1)", 11);
        fault("sting 1 (p=1)(p=1)", 13);
        fault("sting 1 (p=1)p=1", 13);
        fault("sting 1 (p=1))", 13);
        fault("sting 1 p=1)", 11);
        fault("sting 1 (p=1;need 1", 12);
        fault("sting 1 !", 9);
        fault("sting 1 !)", 9);
        fault("sting 1 =1", 8);
        fault("sting 1 p1", 9);
        fault("sting 1 p<=1", 10);
        fault("sting 1 p!=1", 9);
        fault("sting 1 1=p", 8);
        fault("need 1 p=1", 6);
        fault("sting p=1", 6);
    }

    /** Each sign that is next to one of the letters, or looks like one. */
    private static void signsBeside() {
        for (char sign : "oorsgijlwuceaPQKVHDx0 ".toCharArray()) {
            fault("sting 1 " + sign + "=1", 8);
        }
        for (char sign : ";?~-+!p0".toCharArray()) {
            fault("sting 1 p" + sign + "1", 9);
        }
        for (String word : new String[] {"Sting", "Balm", "Need", "tings", "alm", "eed", "\0"}) {
            fault(word + " 1 p=1", 0);
        }
        fault("stung 1 p=1", 2);
        fault("bald 1 p=1", 3);
        fault("neat 1", 2);
        fault("needs 1", 4);
        fault("stings 1 p=1", 5);
    }

    /** "(6 at most)"; "FULL: there are 6" */
    private static void sixParishes() {
        NoGraveEnemy x = new NoGraveEnemy();
        for (int n = 0; n <= 5; n++) {
            due("9 a FAULT is no PARISH", Due.parish(x, "x"), -10);
            due("9 number " + n, Due.parish(x, "need " + (n + 10)), n);
            due("9 the newest holds", x.told(1), n + 10);
            due("9 how many", x.count(1), n + 1);
        }
        due("9 a seventh", Due.parish(x, "need 1"), -4);
        due("9 the sixth holds", x.told(1), 15);
        due("9 six", x.count(1), 6);
    }

    /** "(THE TEXT stays)" */
    private static void fullKeepsTheText() {
        NoGraveEnemy x = Scenes.sixParishes();
        due("9 FULL, ahead of the FAULT of nothing", x.parish(), -4);
        Due.feed(x, "need 1");
        due("9 FULL", x.parish(), -4);
        due("9 six bytes", x.count(5), 6);
        due("9 a seventh byte", x.feed('x'), 7);
        due("9 FULL ahead of a FAULT", x.parish(), -4);
        due("9 seven bytes", x.count(5), 7);
    }

    /** "-10 less the FAULT (the one that held holds)" */
    private static void faultKeepsTheParish() {
        NoGraveEnemy x = Due.of(0, 0);
        due("9 a FAULT ahead of all", Due.parish(x, "need 9;sting 8 p=0;x"), -29);
        due("9 none holds", x.told(1), 30);
        due("9 none stings", x.between(0, 1, 1), 0);
        due("9 a PARISH", Due.parish(x, "need 7;sting 6 p=0"), 0);
        due("9 a FAULT behind it", Due.parish(x, "need 9;sting 8 p=0;"), -29);
        due("9 it holds", x.told(1), 7);
        due("9 it stings", x.between(0, 1, 1), 6);
        due("9 the next number", Due.parish(x, "need 5"), 1);
        due("9 the next holds", x.told(1), 5);
        due("9 the other stings no longer", x.between(0, 1, 1), 0);
        due("9 a FAULT behind a need", Due.parish(x, "need 9;sting 8 p=0;balm 1 x"), -36);
        due("9 a PARISH without a need", Due.parish(x, "sting 3 p=0"), 2);
        due("9 nothing is left of the FAULT's need", x.told(1), 30);
        due("9 nothing is left of the FAULT's sting", x.between(0, 1, 1), 3);
    }

    /** "NEED (30 without): the last one's n." */
    private static void needOfTheLast() {
        NoGraveEnemy x = new NoGraveEnemy();
        due("10 without a PARISH", x.told(1), 30);
        Due.parish(x, "need 0");
        due("10 NEED 0", x.told(1), 0);
        Due.parish(x, "need 99");
        due("10 NEED 99", x.told(1), 99);
        Due.parish(x, "need 1;sting 1 p=1;need 2;balm 3 p=1");
        due("10 NEED of the last", x.told(1), 2);
        Due.parish(x, "need 2;need 1");
        due("10 NEED of the last, though less", x.told(1), 1);
        Due.parish(x, "sting 1 p=1");
        due("10 without a need", x.told(1), 30);
    }

    /** What stings number 3, a FRIEND with v 7, for number 2, on DAY 0, HATE being 50. */
    private static int stings(String e) {
        NoGraveEnemy x = new NoGraveEnemy();
        x.one(0, 0);
        x.one(0, 1);
        x.one(6, 4);
        x.one(4, 7);
        x.hate(3, 2, 50);
        x.hate(2, 3, 90);
        due("9 read '" + e + "'", Due.parish(x, "sting 40 " + e), 0);
        return x.between(3, 2, 1) - (50 - 14);
    }

    private static void lettersFromEndToEnd() {
        String letters = "pqkvhd";
        int[] are = {3, 2, 4, 7, 5, 0};
        for (int letter = 0; letter < 6; letter++) {
            for (int n = 0; n <= 12; n++) {
                int is = are[letter];
                String e = letters.charAt(letter) + "";
                due("9 " + e + "=" + n, stings(e + "=" + n), is == n ? 40 : 0);
                due("9 " + e + "<" + n, stings(e + "<" + n), is < n ? 40 : 0);
                due("9 " + e + ">" + n, stings(e + ">" + n), is > n ? 40 : 0);
            }
        }
    }

    private static void comparesFromEndToEnd() {
        due("9 <99", stings("p<99"), 40);
        due("9 =99", stings("p=99"), 0);
        due("9 >99", stings("p>99"), 0);
        due("9 <0", stings("d<0"), 0);
        due("9 =00", stings("d=00"), 40);
        due("9 >0", stings("d>0"), 0);
        due("9 =03", stings("p=03"), 40);
        due("9 =30", stings("p=30"), 0);
    }

    /** "h HATE by 10 (cut)" */
    private static void hateByTen() {
        NoGraveEnemy x = Due.of(0, 0);
        Due.parish(x, "sting 1 h>0;sting 2 h>1;sting 4 h>8;sting 8 h>9");
        int[] hates = {0, 9, 10, 19, 20, 89, 90, 99};
        int[] stings = {0, 0, 1, 1, 3, 3, 7, 7};
        for (int n = 0; n < hates.length; n++) {
            x.hate(0, 1, hates[n]);
            due("9 h of HATE " + hates[n], x.between(0, 1, 1), hates[n] + stings[n]);
        }
    }

    /** "d the DAY modulo 10" */
    private static void dayByTen() {
        NoGraveEnemy x = Due.of(0, 0);
        Due.parish(x, "sting 1 d=0;sting 2 d=1;sting 4 d=9;sting 8 d>9");
        for (int day = 0; day <= 21; day++) {
            int d = day % 10;
            due("9 d on DAY " + day, x.between(0, 1, 1), d == 0 ? 1 : d == 1 ? 2 : d == 9 ? 4 : 0);
            x.pass(1);
        }
    }

    /** "HATE, and the n of all sting whose E holds, less those of all balm, together (may be below 0)" */
    private static void sumOfAll() {
        NoGraveEnemy x = Due.of(0, 0);
        x.hate(0, 1, 5);
        Due.parish(x, "sting 1 p=0;sting 2 p=0;sting 4 p=1;balm 16 p=0;balm 32 p=1");
        due("9 all that hold", x.between(0, 1, 1), 5 + 1 + 2 - 16);
        due("9 all that hold, back", x.between(1, 0, 1), 4 - 32);
        Due.parish(x, "sting 99 p=0;balm 99 p=0");
        due("9 both alike", x.between(0, 1, 1), 5);
        Due.parish(x, "sting 0 p=0;balm 00 p=0");
        due("9 of 0", x.between(0, 1, 1), 5);
        Due.parish(x, times("balm 99 p=0", 8));
        due("9 far below 0", x.between(0, 1, 1), 5 - 8 * 99);
    }

    private static void bindings() {
        String[] is = {"p=3", "(p=3)", "!p=4", "!!p=3", "p=3|p=4", "p=4|p=3", "p=3&q=2", "p=3|p=4&p=4", "p=4&p=4|p=3"};
        String[] not = {"p=4", "(p=4)", "!p=3", "!!p=4", "p=4|p=5", "p=3&q=3", "p=4&q=2", "p=4|p=3&p=4", "p=4&p=3|p=4"};
        for (String e : is) {
            due("9 " + e, stings(e), 40);
            due("9 !(" + e + ")", stings("!(" + e + ")"), 0);
        }
        for (String e : not) {
            due("9 " + e, stings(e), 0);
            due("9 !(" + e + ")", stings("!(" + e + ")"), 40);
        }
        due("9 ! of the nearest alone", stings("!p=4|p=3"), 40);
        due("9 ! of the nearest alone, &", stings("!p=4&p=4"), 0);
        due("9 ( ) ahead of &", stings("(p=3|p=3)&p=4"), 0);
        due("9 four deep", stings("(((!p=4&p=3)|p=4)&p=3)|p=4"), 40);
        due("9 many of |", stings(many("p=4", '|') + "q=2"), 40);
        due("9 many of &", stings(many("p=3", '&') + "q=3"), 0);
    }

    private static String many(String test, char between) {
        StringBuilder e = new StringBuilder();
        for (int n = 0; n < 21; n++) {
            e.append(test).append(between);
        }
        return e.toString();
    }
}
