/** Promises 7 and 8: feed, col; what a PASS means. */
public final class PassesTest {
    private static final Check CHECK = new Check();

    public static void main(String[] args) {
        feed();
        wholeTexts();
        faults();
        nesting();
        clauses();
        textAndPassAfterCol();
        nothingIsLeftOver();
        fullOfPasses();
        tests();
        binding();
        snow();
        CHECK.end();
    }

    private static void feed() {
        ThawGives x = new ThawGives();
        CHECK.due("feed(-1)", x.feed(-1), -2);
        CHECK.due("feed(128)", x.feed(128), -2);
        CHECK.due("feed(256)", x.feed(256), -2);
        CHECK.due("nothing came", x.count(5), 0);
        CHECK.due("feed(0)", x.feed(0), 1);
        CHECK.due("feed(127)", x.feed(127), 2);
        for (int i = 3; i <= 100; i++) {
            CHECK.due("feed", x.feed('!'), i);
        }
        CHECK.due("feed to a full text", x.feed('!'), -4);
        CHECK.due("BAD ahead of FULL", x.feed(128), -2);
        CHECK.due("a hundred", x.count(5), 100);
        CHECK.due("sign 0 begins none", x.col(), -10);
        CHECK.due("empty then", x.count(5), 0);
    }

    private static void wholeTexts() {
        String[] texts = {
            "snow 0", "snow 99", "snow 07", "warm 5 p=1", "frost 10 k<6", "warm 0 v>9", "warm 99 w=00",
            "warm 1 d=1&m=2", "warm 1 d=1|m=2", "warm 1 (d=1|m=2)&k=1", "warm 1 ((((p=1))))", "warm 1 !!!!p=1",
            "warm 1 !(!(p=1))|((!!p<3))&p>1", "snow 1;warm 1 p=1;frost 2 p=2;snow 3", "frost 1 !p=1&!p=2|!p=3",
        };
        for (String text : texts) {
            CHECK.due(text, Check.col(new ThawGives(), text), 0);
        }
    }

    private static void faults() {
        fault("", 0);
        fault("x", 0);
        fault(" snow 1", 0);
        fault(";snow 1", 0);
        fault("w", 1);
        fault("wa", 2);
        fault("Warm 1 p=1", 0);
        fault("worm 1 p=1", 1);
        fault("warn 1 p=1", 3);
        fault("warm", 4);
        fault("warm1 p=1", 4);
        fault("warm ", 5);
        fault("warm  1 p=1", 5);
        fault("warm -1 p=1", 5);
        fault("warm 5", 6);
        fault("warm 5;", 6);
        fault("warm 55", 7);
        fault("warm 555 p=1", 7);
        fault("warm 5 ", 7);
        fault("warm 5  p=1", 7);
        fault("warm 5 x=1", 7);
        fault("warm 5 p", 8);
        fault("warm 5 p1", 8);
        fault("warm 5 p!1", 8);
        fault("warm 5 p=", 9);
        fault("warm 5 p<=1", 9);
        fault("warm 5 p=x", 9);
        fault("warm 5 p=123", 11);
        fault("warm 5 p=1 ", 10);
        fault("warm 5 p=1)", 10);
        fault("warm 5 p=1p=1", 10);
        fault("warm 5 p=1!p=1", 10);
        fault("warm 5 p=1&", 11);
        fault("warm 5 p=1&&p=2", 11);
        fault("warm 5 p=1|", 11);
        fault("warm 5 p=1|;", 11);
        fault("warm 5 &p=1", 7);
        fault("warm 5 (", 8);
        fault("warm 5 ()", 8);
        fault("warm 5 (p=1", 11);
        fault("warm 5 (p=1;snow 1", 11);
        fault("warm 5 (p=1))", 12);
        fault("warm 5 !", 8);
        fault("warm 5 !|", 8);
        fault("frost", 5);
        fault("frosty", 5);
        fault("frist 1 p=1", 2);
        fault("frost 1", 7);
        fault("frost 1 p>1;", 12);
        fault("s", 1);
        fault("snob 1", 3);
        fault("snow", 4);
        fault("snow ", 5);
        fault("snow x", 5);
        fault("snow 123", 7);
        fault("snow 1 p=1", 6);
        fault("snow 1&snow 2", 6);
        fault("snow 1;", 7);
        fault("snow 1;;snow 1", 7);
        fault("snow 1; snow 1", 7);
    }

    private static void fault(String text, int place) {
        CHECK.due("'" + text + "'", Check.col(new ThawGives(), text), -10 - place);
    }

    private static void nesting() {
        fault("warm 5 (((((p=1)))))", 11);
        fault("warm 5 !!!!!p=1", 11);
        fault("warm 5 !(!(!p=1))", 11);
        fault("warm 5 !(!((p=1)))", 11);
        fault("warm 5 ((((p=1&!p=2))))", 15);
        fault("warm 5 !!!!p=1&!!!!!p=2", 19);
        // a ! ends with what it stands ahead of, a ( with its )
        CHECK.due("side by side", Check.col(new ThawGives(), "warm 5 !!!!p=1&!!!!p=2|((((p=3))))&((!!p=4|!!p=5))"), 0);
    }

    private static void clauses() {
        StringBuilder ten = new StringBuilder("snow 0");
        for (int i = 1; i < 10; i++) {
            ten.append(";snow ").append(i);
        }
        ThawGives x = new ThawGives();
        CHECK.due("ten CLAUSES", Check.col(x, ten.toString()), 0);
        CHECK.due("the last SNOW", x.told(1), 9);
        fault(ten + ";snow 1", 69);
        fault(ten + ";", 69);
        fault(ten + "x", 69);
        // a hundred signs, all of them needed
        StringBuilder long100 = new StringBuilder("warm 10 p=0");
        while (long100.length() < 99) {
            long100.append("|p=0");
        }
        fault(long100 + "|", 100);
        CHECK.due("a hundred signs", Check.col(new ThawGives(), long100 + "0"), 0);
    }

    private static void textAndPassAfterCol() {
        ThawGives x = new ThawGives();
        x.thing(0, 0, 0, 50);
        CHECK.due("first", Check.col(x, "warm 1 p=0"), 0);
        CHECK.due("text is empty", x.count(5), 0);
        CHECK.due("holds", x.of(0, 4), 9);
        CHECK.due("fault", Check.col(x, "warm 2 p=0;"), -21);
        CHECK.due("text is empty by a fault", x.count(5), 0);
        CHECK.due("the one that held holds", x.of(0, 4), 9);
        CHECK.due("one PASS", x.count(1), 1);
        CHECK.due("second", Check.col(x, "warm 4 p=0;snow 3"), 1);
        CHECK.due("the newest holds", x.of(0, 4), 12);
        CHECK.due("its SNOW", x.told(1), 3);
        CHECK.due("third", Check.col(x, "frost 1 p=1"), 2);
        CHECK.due("the newest alone", x.of(0, 4), 8);
        CHECK.due("without SNOW", x.told(1), 0);
        CHECK.due("three PASSES", x.count(1), 3);
    }

    /** What a FAULT leaves behind does not come into the next PASS, nor what a longer text had behind its end. */
    private static void nothingIsLeftOver() {
        ThawGives x = new ThawGives();
        x.thing(0, 0, 0, 50);
        CHECK.due("a FAULT behind two CLAUSES", Check.col(x, "snow 5;warm 7 p=0;snow 6 "), -34);
        CHECK.due("no SNOW by it", x.told(1), 0);
        CHECK.due("the next", Check.col(x, "warm 1 p=0"), 0);
        CHECK.due("its CLAUSES alone", x.of(0, 4), 9);
        CHECK.due("without SNOW", x.told(1), 0);
        String whole = "warm 1 p=0|p=1";
        for (int end = 0; end < whole.length(); end++) {
            ThawGives y = new ThawGives();
            Check.col(y, whole);
            boolean isPass = end == 10;
            CHECK.due("cut behind " + end, Check.col(y, whole.substring(0, end)), isPass ? 1 : -10 - end);
        }
    }

    private static void fullOfPasses() {
        ThawGives x = new ThawGives();
        x.thing(0, 0, 0, 50);
        for (int i = 0; i < 6; i++) {
            CHECK.due("col " + i, Check.col(x, "warm " + i + " p=0"), i);
        }
        Check.feed(x, "bad");
        CHECK.due("FULL ahead of the FAULT", x.col(), -4);
        CHECK.due("the text stays", x.count(5), 3);
        CHECK.due("the sixth holds", x.of(0, 4), 13);
        CHECK.due("six", x.count(1), 6);
    }

    /** Each letter below, at and above what it stands for: thing 1 is a LETTER, v 4, WORTH 29, DEPTH 39, WEEK 12. */
    private static void tests() {
        String letters = "pkvwdm";
        int[] values = {1, 5, 4, 2, 3, 2};
        for (int i = 0; i < values.length; i++) {
            for (int n = values[i] - 1; n <= values[i] + 1; n++) {
                holds(letters.charAt(i) + "<" + n, values[i] < n);
                holds(letters.charAt(i) + "=" + n, values[i] == n);
                holds(letters.charAt(i) + ">" + n, values[i] > n);
            }
        }
        holds("p=01", true);
        holds("p<10", true);
        holds("p<99", true);
    }

    private static void holds(String test, boolean due) {
        ThawGives x = new ThawGives();
        x.thing(0, 0, 0, 0);
        x.thing(5, 4, 29, 0);
        x.pass(12);
        x.set(1, 1, 39);
        CHECK.due(test + " is read", Check.col(x, "warm 40 " + test), 0);
        // SUM is 6 or 46, half of it and v are melted
        CHECK.due(test + " holds", x.of(1, 4), due ? 27 : 7);
    }

    /** Which of THINGS 0 .. 3 it holds for, as bits. */
    private static void binding() {
        bits("p=1", 2);
        bits("!p=1", 13);
        bits("!!p=1", 2);
        bits("p=0|p=1&p=2", 1);
        bits("(p=0|p=1)&p=2", 0);
        bits("p=2&p=1|p=0", 1);
        bits("p=2&(p=1|p=0)", 0);
        bits("p=0|p=1&p<2|p=3", 11);
        bits("p=0|p=1|p=3&p>2", 11);
        bits("p<3&p>0&p=2", 4);
        bits("!p=1&p=0", 1);
        bits("!(p=1&p=0)", 15);
        bits("!p=1|p=1", 15);
        bits("!(p=1|p=0)", 12);
        bits("!(!(p=1)&!p=2)", 6);
        bits("((p=1|p=2)&!(p=2|p=3))|p=0", 3);
        bits("p=0|(p=1|(p=2|(p=3|(p=3))))", 15);
        bits("p<2&p<3&p<4|p>2&p>1&p>0", 11);
    }

    private static void bits(String e, int due) {
        ThawGives x = new ThawGives();
        for (int p = 0; p < 4; p++) {
            x.thing(0, 0, 0, 50);
        }
        CHECK.due(e + " is read", Check.col(x, "frost 40 " + e + ";warm 1 p<9"), 0);
        for (int p = 0; p < 4; p++) {
            boolean isFrozen = (due >> p & 1) == 1;
            CHECK.due(e + " for " + p, x.of(p, 4), isFrozen ? -31 : 9);
        }
    }

    private static void snow() {
        ThawGives x = new ThawGives();
        CHECK.due("without a PASS", x.told(1), 0);
        CHECK.due("two of them", Check.col(x, "snow 9;warm 1 p=1;snow 4;frost 2 p=0"), 0);
        CHECK.due("the last", x.told(1), 4);
    }
}
