/** The edges that the document's Terms name under 1: THINGS, PASSES, MELTS, how a WEEK goes; sentence by sentence. */
public final class EdgesOfThingsTest {
    private static final Check CHECK = new Check();
    private static final String LETTERS = "pkvwdm";
    private static final int THING = 0, METAL = 1, CLOTH = 2, LIVING = 3, KNIFE = 4, LETTER = 5, TOLD = 6;

    public static void main(String[] args) {
        numbersOfThings();
        ranges();
        outAndWeekAtFirst();
        lengthOfTheText();
        clauses();
        endOfTheText();
        olderTexts();
        words();
        blanks();
        digits();
        signsOfATest();
        bindings();
        lettersAtTheirEnds();
        numbersThatNoneReaches();
        within();
        faultAtTheEnd();
        faultInside();
        passes();
        snowOfAPass();
        sums();
        meltsLater();
        cloth();
        living();
        knife();
        letter();
        toldByItsRow();
        outStaysOut();
        depthMelts();
        depthGrows();
        snowFalls();
        snowOnWhatIsOut();
        snowAtMost();
        byHowAllIsAhead();
        CHECK.end();
    }

    private static ThawGives one(int kind, int v, int worth, int depth) {
        ThawGives x = new ThawGives();
        CHECK.due("thing", x.thing(kind, v, worth, depth), 0);
        return x;
    }

    private static ThawGives with(ThawGives x, String text) {
        CHECK.due("col of " + text, Check.col(x, text), x.count(1) - 1);
        return x;
    }

    private static void fault(String text, int place) {
        CHECK.due("col of '" + text + "'", Check.col(new ThawGives(), text), -10 - place);
    }

    private static void isPass(String text) {
        CHECK.due("col of '" + text + "'", Check.col(new ThawGives(), text), 0);
    }

    // ---- THINGS

    private static void numbersOfThings() {
        CHECK.by("THINGS 0 .. 5, as they come");
        ThawGives x = new ThawGives();
        for (int p = 0; p <= 5; p++) {
            CHECK.due("of(" + p + ", 1) ahead of it", x.of(p, 1), -10001);
            CHECK.due("thing", x.thing(0, p, 0, 50), p);
            CHECK.due("of(" + p + ", 1)", x.of(p, 1), p);
        }
        CHECK.due("one more", x.thing(0, 9, 0, 50), -4);
        CHECK.due("of(6, 1)", x.of(6, 1), -10001);
        CHECK.due("of(5, 1)", x.of(5, 1), 5);
        CHECK.due("told(15)", x.told(15), 5);
        CHECK.due("told(16)", x.told(16), -1);
        CHECK.due("on(0, 15)", x.on(0, 15), 50);
        CHECK.due("on(0, 16)", x.on(0, 16), -1);
    }

    private static void ranges() {
        CHECK.by("KINDS 0 .. 6; v (0 .. 9), WORTH (0 .. 99), DEPTH (0 .. 99)");
        int[][] taken = {{0, 0, 0, 0}, {6, 0, 0, 0}, {0, 9, 0, 0}, {0, 0, 99, 0}, {0, 0, 0, 99}, {6, 9, 99, 99}};
        ThawGives x = new ThawGives();
        for (int p = 0; p < taken.length; p++) {
            CHECK.due("thing", x.thing(taken[p][0], taken[p][1], taken[p][2], taken[p][3]), p);
            for (int what = 0; what <= 3; what++) {
                CHECK.due("of(" + p + ", " + what + ")", x.of(p, what), taken[p][what]);
            }
        }
        int[][] refused = {
            {-1, 0, 0, 0, -1}, {7, 0, 0, 0, -1}, {0, -1, 0, 0, -2}, {0, 10, 0, 0, -2}, {0, 0, -1, 0, -2},
            {0, 0, 100, 0, -2}, {0, 0, 0, -1, -2}, {0, 0, 0, 100, -2},
        };
        for (int[] row : refused) {
            ThawGives y = new ThawGives();
            CHECK.due("thing", y.thing(row[0], row[1], row[2], row[3]), row[4]);
            CHECK.due("none has come", y.count(0), 0);
        }
    }

    private static void outAndWeekAtFirst() {
        CHECK.by("OUT is one with 0. WEEK: 0 at first");
        ThawGives x = one(THING, 0, 0, 0);
        x.thing(THING, 0, 0, 1);
        x.thing(THING, 0, 0, 99);
        CHECK.due("told(2)", x.told(2), 1);
        CHECK.due("told(0)", x.told(0), 0);
        CHECK.due("told(3)", x.told(3), 100);
        x.set(1, 1, 0);
        x.set(0, 1, 1);
        CHECK.due("told(2)", x.told(2), 2);
        ThawGives all = one(THING, 0, 0, 99);
        for (int p = 1; p < 6; p++) {
            all.thing(THING, 0, 0, 99);
        }
        CHECK.due("told(3)", all.told(3), 594);
        CHECK.due("told(2)", all.told(2), 0);
        for (int p = 0; p < 6; p++) {
            all.set(p, 1, 0);
        }
        CHECK.due("told(3)", all.told(3), 0);
        CHECK.due("told(2)", all.told(2), 63);
    }

    // ---- THE TEXT

    private static void lengthOfTheText() {
        CHECK.by("THE TEXT (bytes, 100 at most)");
        String alike = "|p=0".repeat(20);
        ThawGives x = one(THING, 0, 0, 50);
        Check.feed(x, "warm 10 p=0" + alike + ";snow 79");
        CHECK.due("count(5)", x.count(5), 99);
        CHECK.due("the hundredth", x.feed('9'), 100);
        CHECK.due("one more", x.feed('9'), -4);
        CHECK.due("count(5)", x.count(5), 100);
        CHECK.due("the hundredth is no part of a CLAUSE", x.col(), -109);
        CHECK.due("SNOW", x.told(1), 0);
        ThawGives y = one(THING, 0, 0, 50);
        Check.feed(y, "frost 10 p=0" + alike + ";snow 79");
        CHECK.due("count(5)", y.count(5), 100);
        CHECK.due("one more", y.feed('9'), -4);
        CHECK.due("BAD ahead of FULL", y.feed(128), -2);
        CHECK.due("a hundred, all of them read", y.col(), 0);
        CHECK.due("SNOW", y.told(1), 79);
        CHECK.due("MELTS", y.of(0, 4), -2);
        CHECK.due("empty then", y.feed('s'), 1);
        ThawGives z = one(THING, 0, 0, 50);
        Check.feed(z, "warm 10 p=0" + alike + ";snow 7;");
        CHECK.due("count(5)", z.count(5), 99);
        CHECK.due("the hundredth", z.feed('s'), 100);
        CHECK.due("ends too early", z.col(), -110);
    }

    private static void clauses() {
        CHECK.by("CLAUSES, 1 to 10, with ; between");
        fault("", 0);
        fault(";", 0);
        isPass("snow 1");
        String eight = ";snow 1".repeat(8);
        ThawGives x = with(one(THING, 0, 0, 50), "warm 4 p=0" + eight + ";warm 1 p=0");
        CHECK.due("the first and the tenth", x.of(0, 4), 13);
        fault("warm 4 p=0" + eight + ";warm 1 p=0;", 77);
        fault("warm 4 p=0" + eight + ";warm 1 p=0;snow 1", 77);
        fault("warm 4 p=0" + eight + ";warm 1 p=0 ", 77);
        fault("snow 1;", 7);
        fault("snow 1;;", 7);
        fault("snow 1,snow 1", 6);
        fault("snow 1snow 1", 6);
    }

    /** A whole CLAUSE of so many signs, 22 or more. */
    private static String clauseOf(int signs) {
        int rest = signs - 10;
        int longer = rest % 4;
        return "warm 1 p=1" + "|p=12".repeat(longer) + "|p=1".repeat((rest - 5 * longer) / 4);
    }

    private static void endOfTheText() {
        CHECK.by("THE TEXT (100 at most); the FAULT: the end of THE TEXT, if it ends too early");
        String[] ends = {
            "", "w", "warm", "warm ", "warm 1", "warm 12", "warm 1 ", "warm 1 (", "warm 1 !", "warm 1 p", "warm 1 p=",
            "warm 1 (p=1", "warm 1 (p=12", "warm 1 p=1&", "warm 1 p=1|", "fros", "frost 1", "s", "snow", "snow ",
        };
        for (String end : ends) {
            ThawGives x = new ThawGives();
            Check.feed(x, clauseOf(99 - end.length()) + ";" + end);
            CHECK.due("count(5) with '" + end + "'", x.count(5), 100);
            CHECK.due("a hundred that end with '" + end + "'", x.col(), -110);
        }
        ThawGives x = one(THING, 0, 0, 50);
        CHECK.due("a hundred that end with E", Check.col(x, clauseOf(100)), 0);
        CHECK.due("a hundred that end with )", Check.col(x, clauseOf(87) + ";warm 9 (p=0)"), 1);
        CHECK.due("MELTS", x.of(0, 4), 17);
    }

    private static void olderTexts() {
        CHECK.by("THE TEXT, which is empty then");
        // an older TEXT goes on just where the newer one ends
        String older = "warm 1 p=1;frost 1 (p=12);snow 12;warm 12 !p=12&p=12|p=12;warm 12 p=12;warm 12 p=12;snow 12;snow 2";
        for (int end = 0; end <= older.length(); end++) {
            String text = older.substring(0, end);
            int alone = Check.col(new ThawGives(), text);
            ThawGives x = new ThawGives();
            CHECK.due("the older one", Check.col(x, older), 0);
            CHECK.due("col of '" + text + "' behind it", Check.col(x, text), alone == 0 ? 1 : alone);
        }
        ThawGives x = one(THING, 0, 0, 50);
        CHECK.due("a FAULT behind two CLAUSES", Check.col(x, "warm 7 p=0;warm 9 p=0;snow 6 "), -38);
        CHECK.due("one CLAUSE", Check.col(x, "warm 1 p=0"), 0);
        CHECK.due("that one alone", x.of(0, 4), 9);
        CHECK.due("without SNOW", x.told(1), 0);
    }

    private static void words() {
        CHECK.by("CLAUSES: warm n E; frost n E; snow n");
        for (int sign = 0; sign <= 127; sign++) {
            boolean isFirst = sign == 'w' || sign == 'f' || sign == 's';
            fault("" + (char) sign, isFirst ? 1 : 0);
            boolean isSecond = sign == 'w' || sign == 'f' || sign == 's';
            fault("snow 1;" + (char) sign, isSecond ? 8 : 7);
        }
        for (String word : new String[] {"warm", "frost", "snow"}) {
            for (int end = 0; end < word.length(); end++) {
                fault(word.substring(0, end), end);
                fault(word.substring(0, end) + "#", end);
                fault(word.substring(0, end) + Character.toUpperCase(word.charAt(end)), end);
            }
            fault(word + "s 1", word.length());
        }
        fault("snow 1 p=1", 6);
        fault("warm p=1", 5);
        fault("warm 1", 6);
        fault("frost 1", 7);
    }

    private static void blanks() {
        CHECK.by("one blank ahead of each part behind the word");
        fault("warm5 p=1", 4);
        fault("warm  5 p=1", 5);
        fault("warm 5p=1", 6);
        fault("warm 5  p=1", 7);
        fault("warm\t5 p=1", 4);
        fault("warm 5\tp=1", 6);
        fault("frost5 p=1", 5);
        fault("frost  5 p=1", 6);
        fault("frost 5p=1", 7);
        fault("frost 5  p=1", 8);
        fault("snow5", 4);
        fault("snow  5", 5);
        fault(" snow 5", 0);
        fault("snow 5 ", 6);
        fault("snow 5; snow 5", 7);
        fault("snow 5 ;snow 5", 6);
        fault("warm 5 p =1", 8);
        fault("warm 5 p= 1", 9);
        fault("warm 5 p=1 &p=1", 10);
        fault("warm 5 p=1& p=1", 11);
        fault("warm 5 ( p=1)", 8);
        fault("warm 5 ! p=1", 8);
    }

    private static void digits() {
        CHECK.by("n 1 or 2 digits; a number (1 or 2 digits)");
        String[] heads = {"warm ", "frost ", "snow ", "warm 1 p="};
        String[] tails = {" p=0", " p=0", "", ""};
        for (int i = 0; i < heads.length; i++) {
            int at = heads[i].length();
            fault(heads[i] + tails[i], at);
            fault(heads[i] + "-1" + tails[i], at);
            fault(heads[i] + "100" + tails[i], at + 2);
            fault(heads[i] + "007" + tails[i], at + 2);
            for (String number : new String[] {"0", "9", "00", "09", "10", "99"}) {
                isPass(heads[i] + number + tails[i]);
            }
            for (int sign = 0; sign <= 127; sign++) {
                boolean isDigit = sign >= 48 && sign <= 57;
                if (!isDigit) {
                    fault(heads[i] + (char) sign + tails[i], at);
                }
            }
        }
        String[] numbers = {"0", "1", "9", "00", "01", "09", "10", "90", "99"};
        int[] values = {0, 1, 9, 0, 1, 9, 10, 90, 99};
        for (int i = 0; i < values.length; i++) {
            String n = numbers[i];
            CHECK.due("warm " + n, with(one(THING, 0, 0, 1), "warm " + n + " p=0").of(0, 4), 8 + values[i]);
            CHECK.due("frost " + n, with(one(THING, 0, 0, 1), "frost " + n + " p=0").of(0, 4), 8 - values[i]);
            CHECK.due("snow " + n, with(one(THING, 0, 0, 1), "snow " + n).told(1), values[i]);
            CHECK.due("p<" + n, with(one(THING, 0, 0, 1), "warm 1 p<" + n).of(0, 4), values[i] > 0 ? 9 : 8);
        }
    }

    private static void signsOfATest() {
        CHECK.by("a TEST: a letter, < or = or >, a number");
        for (int sign = 0; sign <= 127; sign++) {
            char c = (char) sign;
            boolean isLetter = LETTERS.indexOf(c) >= 0;
            boolean opens = c == '(' || c == '!';
            if (isLetter) {
                isPass("warm 5 " + c + "=1");
            } else {
                fault("warm 5 " + c + "=1", opens ? 8 : 7);
            }
            if (c == '<' || c == '=' || c == '>') {
                isPass("warm 5 p" + c + "1");
            } else {
                fault("warm 5 p" + c + "1", 8);
            }
            if (c == '&' || c == '|') {
                isPass("warm 5 p=12" + c + "p=1");
            } else {
                fault("warm 5 p=12" + c + "p=1", c == ';' ? 12 : 11);
            }
        }
        fault("warm 5 p==1", 9);
        fault("warm 5 p<=1", 9);
        fault("warm 5 =1", 7);
        fault("warm 5 1=p", 7);
    }

    private static void bindings() {
        CHECK.by("E: T or T|E. T: F or F&T. F: !F, (E), or a TEST");
        for (String e : new String[] {"p=1", "p=1|p=2|p=3", "p=1&p=2&p=3", "p=1|p=2&p=3", "!p=1", "(p=1)", "(p=1|p=2)&!(p=3)"}) {
            isPass("warm 5 " + e);
        }
        // for which of THINGS 0 to 3 it holds, as bits
        holds("p=0|p=1&p=2", 1);
        holds("p=2&p=1|p=0", 1);
        holds("(p=0|p=1)&p=1", 2);
        holds("p<2|p<3&p>0|p=3", 15);
        holds("p<3&p>0|p=3&p>2", 14);
        holds("!p=1&p>0", 12);
        holds("!(p=1&p>0)|p=1", 15);
        holds("!p=0|p=0", 15);
        holds("!!!p=2", 11);
        holds("p<3&(p>0&p>1)", 4);
        holds("p<3&(p>0)", 6);
        holds("(p>0)&(p<3)", 6);
        holds("p>0&(p=1|(p=2&p<3))", 6);
        holds("p=0|(p=1|(p=2|(p=3|(p=3))))", 15);
        holds("p<4&(p<4&(p<4&(p<4&(p=3))))", 8);
        holds("p=3|p=3|p=3&p=3&p=3|p=0&p=0", 9);
        fault("warm 5 |p=1", 7);
        fault("warm 5 p=1|", 11);
        fault("warm 5 p=1||p=1", 11);
        fault("warm 5 p=1&", 11);
        fault("warm 5 p=1&|p=1", 11);
        fault("warm 5 p=1!", 10);
        fault("warm 5 p=1(p=1)", 10);
        fault("warm 5 ()", 8);
        fault("warm 5 (p=1", 11);
        fault("warm 5 (p=1;snow 1", 11);
        fault("warm 5 p=1)", 10);
        fault("warm 5 (p=1))", 12);
        fault("warm 5 !", 8);
        fault("warm 5 !)", 8);
        fault("warm 5 (!)", 9);
    }

    private static void holds(String e, int bits) {
        ThawGives x = new ThawGives();
        for (int p = 0; p <= 3; p++) {
            x.thing(THING, 0, 0, 50);
        }
        with(x, "warm 40 " + e);
        for (int p = 0; p <= 3; p++) {
            CHECK.due(e + " for " + p, x.of(p, 4), (bits >> p & 1) == 1 ? 48 : 8);
        }
    }

    /** Whether a TEST holds for the one of THINGS 0 .. p; its SUM is 8 or 48 less a tenth of WORTH. */
    private static void test(String test, ThawGives x, int p, int weeksOn, boolean due) {
        int without = x.melts(p, weeksOn);
        with(x, "warm 40 " + test);
        CHECK.due(test + " holds", x.melts(p, weeksOn), due ? without + 40 : without);
        x.undo();
    }

    private static void is(String letter, int value, ThawGives x, int p, int weeksOn) {
        x.image();
        test(letter + "=" + value, x, p, weeksOn, true);
        test(letter + "<" + value, x, p, weeksOn, false);
        test(letter + ">" + value, x, p, weeksOn, false);
        test(letter + "<" + (value + 1), x, p, weeksOn, true);
        if (value > 0) {
            test(letter + ">" + (value - 1), x, p, weeksOn, true);
        }
    }

    private static void lettersAtTheirEnds() {
        CHECK.by("p its number, k its KIND, v its v");
        ThawGives x = new ThawGives();
        for (int p = 0; p <= 5; p++) {
            x.thing(THING, 0, 0, 50);
        }
        is("p", 5, x, 5, 0);
        with(x, "warm 42 p=5");
        CHECK.due("p=5, behind a WEEK", x.on(1, 15), 0);
        CHECK.due("p=5, behind a WEEK", x.on(1, 14), 42);
        CHECK.due("p=5, WHEN", x.of(5, 5), 1);
        CHECK.due("p=5, WHEN", x.of(0, 5), 7);
        CHECK.due("p=5, BY", x.by(5, 1, 0), 10);
        CHECK.due("p=5, BY", x.by(0, 1, 0), 0);
        is("p", 0, one(THING, 0, 0, 50), 0, 0);
        is("k", 0, one(THING, 0, 0, 50), 0, 0);
        is("k", 6, one(TOLD, 0, 0, 50), 0, 0);
        is("v", 0, one(THING, 0, 0, 50), 0, 0);
        is("v", 9, one(THING, 9, 0, 50), 0, 0);
        CHECK.by("w WORTH by 10 (cut)");
        int[][] tenths = {{0, 0}, {9, 0}, {10, 1}, {19, 1}, {89, 8}, {90, 9}, {99, 9}};
        for (int[] row : tenths) {
            is("w", row[1], one(THING, 0, row[0], 50), 0, 0);
        }
        CHECK.by("d DEPTH by 10 (cut)");
        for (int[] row : tenths) {
            is("d", row[1], one(THING, 0, 0, row[0]), 0, 0);
        }
        CHECK.by("m the WEEK modulo 10");
        int[][] weeks = {{0, 0}, {1, 1}, {9, 9}, {10, 0}, {11, 1}, {19, 9}, {20, 0}, {60, 0}};
        for (int[] row : weeks) {
            is("m", row[1], one(THING, 0, 0, 50), 0, row[0]);
        }
        ThawGives late = one(THING, 0, 0, 50);
        Check.pass(late, 9999);
        is("m", 9, late, 0, 0);
        ThawGives beyond = one(THING, 0, 0, 50);
        Check.pass(beyond, 9999);
        is("m", 0, beyond, 0, 1);
    }

    private static void numbersThatNoneReaches() {
        CHECK.by("a TEST with a number (1 or 2 digits)");
        for (int i = 0; i < LETTERS.length(); i++) {
            String letter = LETTERS.substring(i, i + 1);
            ThawGives x = one(TOLD, 9, 99, 99);
            x.image();
            test(letter + "<0", x, 0, 9, false);
            test(letter + ">99", x, 0, 9, false);
            test(letter + "<99", x, 0, 9, true);
            test(letter + "=99", x, 0, 9, false);
        }
    }

    private static void within() {
        CHECK.by("A ( or ! within 4 others is none");
        for (int bits = 0; bits < 16; bits++) {
            StringBuilder open = new StringBuilder("warm 5 ");
            StringBuilder close = new StringBuilder();
            for (int i = 0; i < 4; i++) {
                boolean isRound = (bits >> i & 1) == 1;
                open.append(isRound ? '(' : '!');
                close.append(isRound ? ")" : "");
            }
            isPass(open + "p=1" + close);
            fault(open + "(p=1)" + close, 11);
            fault(open + "!p=1" + close, 11);
            fault(open.toString(), 11);
        }
        isPass("warm 5 ((((p=1))))&((((p=1))))|!!!!p=1&!!!!p=1");
        isPass("warm 5 (((!p=1&!p=2|!p=3)&!p=4)&!p=5)&!p=6");
        fault("warm 5 (((!p=1&!!p=2)))", 16);
        fault("warm 5 (((p=1&(p=2&(p=3)))))", 19);
        isPass("warm 5 !!!!p=0;warm 5 !!!!p=0;warm 5 ((((p=0))))");
    }

    // ---- the FAULT

    private static void faultAtTheEnd() {
        CHECK.by("The FAULT: the end of THE TEXT, if it ends too early");
        String whole = "frost 12 (p=10|!k<3)&w>4;warm 3 d=07;snow 25;snow 1";
        for (int end = 0; end <= whole.length(); end++) {
            String text = whole.substring(0, end);
            boolean isPass = text.matches(".*;snow \\d+|.*d=\\d+|.*w>4|.*k<3[)]");
            CHECK.due("col of '" + text + "'", Check.col(new ThawGives(), text), isPass ? 0 : -10 - end);
        }
    }

    private static void faultInside() {
        CHECK.by("The FAULT: the place of the first byte with which none begins so");
        String whole = "frost 12 (p=10|!k<3)&w>4;warm 3 d=07;snow 25;snow 1";
        for (int at = 0; at < whole.length(); at++) {
            fault(whole.substring(0, at) + "#" + whole.substring(at + 1), at);
            fault(whole.substring(0, at) + (char) 0 + whole.substring(at), at);
        }
        fault("#", 0);
        fault("snow 1#", 6);
        fault("warm #5 p=##", 5);
        // what stands behind the FAULT does not matter, nor what would have been put right by it
        fault("warm 5 p=1)(", 10);
        fault("snow 1;x;y", 7);
    }

    // ---- PASSES

    private static void passes() {
        CHECK.by("The newest PASS holds (6 at most); without one there are no CLAUSES");
        ThawGives x = one(THING, 0, 0, 50);
        CHECK.due("without one", x.of(0, 4), 8);
        for (int n = 0; n < 6; n++) {
            CHECK.due("col", Check.col(x, "warm " + (9 - n) + " p=0"), n);
            CHECK.due("the newest", x.of(0, 4), 17 - n);
        }
        Check.feed(x, "warm 1 p=0");
        CHECK.due("one more", x.col(), -4);
        CHECK.due("THE TEXT stays", x.count(5), 10);
        CHECK.due("the sixth", x.of(0, 4), 12);
        CHECK.due("six", x.count(1), 6);
        CHECK.by("a PASS, and holds; less the FAULT (the one that held holds); THE TEXT, which is empty then");
        ThawGives y = with(one(THING, 0, 0, 50), "warm 5 p=0;snow 7");
        CHECK.due("count(5)", y.count(5), 0);
        for (String text : new String[] {"", "x", "warm 1 p=0;", "snow 9;warm 9 p=0;snow 8;", "snow 9;#"}) {
            CHECK.due("col of '" + text + "' is a FAULT", Check.col(y, text) <= -10 ? 1 : 0, 1);
            CHECK.due("count(5)", y.count(5), 0);
            CHECK.due("count(1)", y.count(1), 1);
            CHECK.due("MELTS", y.of(0, 4), 13);
            CHECK.due("SNOW", y.told(1), 7);
        }
        CHECK.due("the next", Check.col(y, "warm 6 p=0"), 1);
        CHECK.due("MELTS", y.of(0, 4), 14);
        CHECK.due("SNOW", y.told(1), 0);
    }

    private static void snowOfAPass() {
        CHECK.by("SNOW (0 without): the last one's n");
        ThawGives x = new ThawGives();
        CHECK.due("without a PASS", x.told(1), 0);
        CHECK.due("without", with(x, "warm 9 p=0;frost 8 p=0").told(1), 0);
        CHECK.due("one", with(x, "snow 99;warm 9 p=0").told(1), 99);
        CHECK.due("the last", with(x, "snow 7;snow 99;warm 9 p=0;snow 3").told(1), 3);
        CHECK.due("the last, 0", with(x, "snow 7;snow 0").told(1), 0);
        CHECK.due("without again", with(x, "warm 9 p=0").told(1), 0);
    }

    // ---- MELTS

    private static void sums() {
        CHECK.by("SUM: 8, all warm, less all frost, less WORTH by 10 (cut), together (may be below 0)");
        int[][] tenths = {{0, 8}, {9, 8}, {10, 7}, {19, 7}, {79, 1}, {80, 0}, {89, 0}, {90, -1}, {99, -1}};
        for (int[] row : tenths) {
            CHECK.due("WORTH " + row[0], one(THING, 0, row[0], 50).of(0, 4), row[1]);
        }
        String seven = "frost 99 p=0" + ";frost 99 p=0".repeat(6);
        CHECK.due("the least", with(one(THING, 0, 99, 50), seven).of(0, 4), -694);
        CHECK.due("twice", with(one(KNIFE, 0, 99, 50), seven).of(0, 4), -1384);
        String warm = "warm 99 p=0" + ";warm 99 p=0".repeat(7);
        CHECK.due("the greatest", with(one(THING, 0, 0, 50), warm).of(0, 4), 800);
        CHECK.due("some hold", with(one(THING, 0, 0, 50), "warm 9 p=0;warm 7 p=1;frost 2 p=0;frost 3 p=1").of(0, 4), 15);
        CHECK.due("none holds", with(one(THING, 0, 0, 50), "warm 9 p=1;frost 2 p=1").of(0, 4), 8);
        CHECK.due("of what is OUT", with(one(THING, 0, 99, 0), "frost 9 d=0").of(0, 4), -10);
    }

    private static void meltsLater() {
        CHECK.by("MELTS n WEEKS (0 .. 60) from now, WORTH and DEPTH being as now. -10001: NONE; -10002: n");
        ThawGives x = with(one(THING, 0, 0, 30), "warm 10 d=3;warm 20 d<1;warm 5 m=0");
        CHECK.due("melts(0, 0)", x.melts(0, 0), 23);
        CHECK.due("melts(0, 1)", x.melts(0, 1), 18);
        CHECK.due("melts(0, 59)", x.melts(0, 59), 18);
        CHECK.due("melts(0, 60)", x.melts(0, 60), 23);
        CHECK.due("OUT by then", x.on(59, 10), 0);
        for (int n : new int[] {-1, 61}) {
            CHECK.due("melts(0, " + n + ")", x.melts(0, n), -10002);
            CHECK.due("melts(1, " + n + ")", x.melts(1, n), -10001);
            CHECK.due("melts(-1, " + n + ")", x.melts(-1, n), -10001);
        }
        x.pass(5);
        CHECK.due("from WEEK 5", x.melts(0, 5), 33);
        CHECK.due("from WEEK 5", x.melts(0, 60), 28);
    }

    private static void cloth() {
        CHECK.by("CLOTH: the half (cut toward 0) of SUM");
        int[] halves = {-2, -2, -1, -1, 0, 0, 0, 1, 1, 2, 2};
        for (int i = 0; i < halves.length; i++) {
            // SUM is -5 to 5
            CHECK.due("SUM " + (i - 5), with(one(CLOTH, 9, 0, 50), "frost " + (13 - i) + " p=0").of(0, 4), halves[i]);
        }
    }

    private static void living() {
        CHECK.by("LIVING: SUM; 0, if WEEK is less than v");
        for (int v : new int[] {0, 1, 5, 9}) {
            ThawGives warm = one(LIVING, v, 0, 50);
            ThawGives cold = with(one(LIVING, v, 0, 50), "frost 20 p=0");
            for (int week : new int[] {0, 1, 2, 4, 5, 6, 8, 9, 10, 60}) {
                CHECK.due("v " + v + ", WEEK " + week, warm.melts(0, week), week < v ? 0 : 8);
                CHECK.due("v " + v + ", WEEK " + week + ", below 0", cold.melts(0, week), week < v ? 0 : -12);
            }
        }
    }

    private static void knife() {
        CHECK.by("KNIFE: as METAL; twice that, if WEEK is a multiple of 4");
        ThawGives warm = one(KNIFE, 9, 0, 50);
        ThawGives cold = with(one(KNIFE, 9, 0, 50), "frost 20 p=0");
        ThawGives metal = one(METAL, 9, 0, 50);
        for (int week = 0; week <= 9; week++) {
            boolean isTwice = week == 0 || week == 4 || week == 8;
            CHECK.due("WEEK " + week, warm.melts(0, week), isTwice ? 20 : 10);
            CHECK.due("WEEK " + week + ", below 0", cold.melts(0, week), isTwice ? -20 : -10);
            CHECK.due("METAL in WEEK " + week, metal.melts(0, week), 10);
        }
        Check.pass(warm, 9997);
        CHECK.due("WEEK 9997", warm.melts(0, 0), 10);
        CHECK.due("WEEK 9999", warm.melts(0, 2), 10);
        CHECK.due("WEEK 10000", warm.melts(0, 3), 20);
    }

    private static void letter() {
        CHECK.by("LETTER: as CLOTH, and v");
        CHECK.due("SUM 8, v 0", one(LETTER, 0, 0, 50).of(0, 4), 4);
        CHECK.due("SUM 8, v 9", one(LETTER, 9, 0, 50).of(0, 4), 13);
        CHECK.due("SUM 7, v 3", one(LETTER, 3, 10, 50).of(0, 4), 6);
        CHECK.due("SUM -1, v 1", one(LETTER, 1, 99, 50).of(0, 4), 1);
        CHECK.due("SUM -3, v 0", with(one(LETTER, 0, 0, 50), "frost 11 p=0").of(0, 4), -1);
        CHECK.due("SUM -3, v 1", with(one(LETTER, 1, 0, 50), "frost 11 p=0").of(0, 4), 0);
        CHECK.due("CLOTH without v", one(CLOTH, 9, 0, 50).of(0, 4), 4);
    }

    private static void toldByItsRow() {
        CHECK.by("TOLD: as LIVING, and its ROW (four numbers 0 .. 9; 0 at first) at WEEK modulo 4 more");
        ThawGives x = one(TOLD, 6, 0, 50);
        for (int week = 0; week <= 8; week++) {
            CHECK.due("at first, WEEK " + week, x.melts(0, week), week < 6 ? 0 : 8);
        }
        int[] row = {9, 0, 1, 4};
        for (int part = 0; part <= 3; part++) {
            CHECK.due("row(0, " + part + ")", x.row(0, part, row[part]), 0);
        }
        for (int week = 0; week <= 60; week++) {
            CHECK.due("WEEK " + week, x.melts(0, week), (week < 6 ? 0 : 8) + row[week % 4]);
        }
        CHECK.due("row(0, 0, 10)", x.row(0, 0, 10), -2);
        CHECK.due("row(0, 0, -1)", x.row(0, 0, -1), -2);
        CHECK.due("row(0, -1, 5)", x.row(0, -1, 5), -1);
        CHECK.due("row(0, 4, 5)", x.row(0, 4, 5), -1);
        CHECK.due("row(0, 0, 9)", x.row(0, 0, 9), 9);
        CHECK.due("row(0, 1, 0)", x.row(0, 1, 0), 0);
        Check.pass(x, 9999);
        CHECK.due("WEEK 9999", x.melts(0, 0), 12);
        CHECK.due("WEEK 10000", x.melts(0, 1), 17);
    }

    // ---- how a WEEK goes

    /** DEPTH of one behind a WEEK that goes, as it is asked and as it is then. */
    private static void week(String name, ThawGives x, int due) {
        CHECK.due(name + ", asked", x.on(1, 10), due);
        x.pass(1);
        CHECK.due(name, x.of(0, 3), due);
    }

    private static void outStaysOut() {
        CHECK.by("DEPTH of each THING that is not OUT is what it MELTS less");
        week("OUT, below 0", with(one(THING, 0, 0, 0), "frost 20 p=0"), 0);
        week("OUT, SNOW", with(one(THING, 0, 0, 0), "frost 20 p=0;snow 9"), 0);
        week("1, below 0", with(one(THING, 0, 0, 1), "frost 20 p=0"), 13);
        week("MELTS 0", with(one(THING, 0, 0, 1), "frost 8 p=0"), 1);
        ThawGives x = with(one(THING, 0, 0, 0), "frost 20 p=0;snow 9");
        CHECK.due("behind 60", x.on(60, 10), 0);
        CHECK.due("WHEN", x.of(0, 5), 0);
    }

    private static void depthMelts() {
        CHECK.by("DEPTH (0 at least)");
        week("one more than it MELTS", one(THING, 0, 0, 9), 1);
        week("as much as it MELTS", one(THING, 0, 0, 8), 0);
        week("one less than it MELTS", one(THING, 0, 0, 7), 0);
        week("far less", with(one(THING, 0, 0, 1), "warm 99 p=0"), 0);
    }

    private static void depthGrows() {
        CHECK.by("DEPTH (99 at most)");
        week("98", with(one(THING, 0, 0, 78), "frost 28 p=0"), 98);
        week("99", with(one(THING, 0, 0, 79), "frost 28 p=0"), 99);
        week("100", with(one(THING, 0, 0, 80), "frost 28 p=0"), 99);
        week("far more", with(one(THING, 0, 0, 99), "frost 99 p=0;frost 99 p=0"), 99);
        int[][] depths = {{78, 98}, {79, 99}, {80, 99}, {99, 99}};
        for (int[] row : depths) {
            // in a WEEK without SNOW, too
            ThawGives later = one(THING, 0, 0, 0);
            later.pass(1);
            later.set(0, 1, row[0]);
            week("in WEEK 1, from " + row[0], with(later, "frost 28 p=0"), row[1]);
        }
        ThawGives x = with(one(THING, 0, 0, 99), "frost 99 m=0;warm 2 m=1");
        CHECK.due("what is above 99 is gone", x.on(2, 10), 89);
    }

    private static void snowFalls() {
        CHECK.by("if WEEK is a multiple of 5, SNOW more");
        for (int week = 0; week <= 11; week++) {
            ThawGives x = one(THING, 0, 80, 30);
            x.pass(week);
            with(x, "snow 7");
            week("WEEK " + week, x, week == 0 || week == 5 || week == 10 ? 37 : 30);
        }
        ThawGives late = one(THING, 0, 80, 30);
        Check.pass(late, 9995);
        with(late, "snow 7");
        CHECK.due("WEEK 9995", late.on(1, 10), 37);
        CHECK.due("WEEK 9999", late.on(5, 10), 37);
        CHECK.due("WEEK 10000", late.on(6, 10), 44);
        week("SNOW 0", with(one(THING, 0, 80, 30), "snow 7;snow 0"), 30);
    }

    private static void snowOnWhatIsOut() {
        CHECK.by("then SNOW more, if it is not OUT then");
        week("OUT by this WEEK", with(one(THING, 0, 0, 8), "snow 50"), 0);
        week("1 left", with(one(THING, 0, 0, 9), "snow 50"), 51);
        week("OUT ahead of it", with(one(THING, 0, 80, 0), "snow 50"), 0);
        CHECK.by("WEEK is 1 more");
        ThawGives x = with(one(THING, 0, 80, 30), "snow 7");
        CHECK.due("pass(1)", x.pass(1), 1);
        CHECK.due("told(0)", x.told(0), 1);
        CHECK.due("pass(5)", x.pass(5), 6);
        CHECK.due("SNOW in WEEKS 0 and 5", x.of(0, 3), 44);
    }

    private static void snowAtMost() {
        CHECK.by("SNOW more (99 at most)");
        week("98", with(one(THING, 0, 80, 91), "snow 7"), 98);
        week("99", with(one(THING, 0, 80, 92), "snow 7"), 99);
        week("100", with(one(THING, 0, 80, 93), "snow 7"), 99);
        week("far more", with(one(THING, 0, 80, 99), "snow 99"), 99);
        week("grown to 99, then SNOW", with(one(THING, 0, 0, 90), "frost 50 p=0;snow 99"), 99);
        // what MELTS, MELTS ahead of the SNOW
        week("99, less 8, and 3 more", with(one(THING, 0, 0, 99), "snow 3"), 94);
        week("99, less 8, and 9 more", with(one(THING, 0, 0, 99), "snow 9"), 99);
    }

    private static void byHowAllIsAhead() {
        CHECK.by("A WEEK goes, by how all is ahead of it");
        // the TESTs are of DEPTH and WEEK ahead of it, though both are others behind it
        week("DEPTH 30", with(one(THING, 0, 0, 30), "warm 10 d=3"), 12);
        week("DEPTH 29", with(one(THING, 0, 0, 29), "warm 10 d=3"), 21);
        week("WEEK 0", with(one(THING, 0, 0, 30), "warm 10 m=0"), 12);
        week("WEEK 0, not 1", with(one(THING, 0, 0, 30), "warm 10 m=1"), 22);
        ThawGives living = one(LIVING, 1, 0, 30);
        week("LIVING in WEEK 0", living, 30);
        week("LIVING in WEEK 1", living, 22);
        ThawGives knife = one(KNIFE, 1, 0, 90);
        knife.pass(3);
        knife.set(0, 1, 90);
        week("KNIFE in WEEK 3", knife, 80);
        week("KNIFE in WEEK 4", knife, 60);
        ThawGives two = with(one(THING, 0, 0, 30), "warm 10 d=3");
        two.thing(THING, 0, 0, 9);
        two.thing(THING, 0, 0, 39);
        two.pass(1);
        CHECK.due("each by its own", two.of(0, 3), 12);
        CHECK.due("each by its own", two.of(1, 3), 1);
        CHECK.due("each by its own", two.of(2, 3), 21);
    }
}
