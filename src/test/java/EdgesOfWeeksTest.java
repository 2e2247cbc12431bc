/**
 * The edges that the document's Terms name under 2: ON, WHEN, ORDER, CROSSED, BY, LESS, KEPT, SEEN, ODDS, MEAN, a PLAN,
 * a BOOK, ACTS, THE IMAGE; sentence by sentence.
 */
public final class EdgesOfWeeksTest {
    private static final Check CHECK = new Check();
    /** With this each THING of less than 10 WORTH melts 1 a WEEK. */
    private static final String SLOW = "frost 7 p<9";
    private static final int MIN = Integer.MIN_VALUE, MAX = Integer.MAX_VALUE;

    public static void main(String[] args) {
        beyondTheLastWeek();
        on();
        when();
        order();
        crossedByEach();
        crossedFirst();
        by();
        less();
        lessIsTheLeast();
        kept();
        keptAtMost();
        seenWeeks();
        seenRows();
        worths();
        depths();
        can();
        seenOfEachItsOwn();
        odds();
        mean();
        planRows();
        planOfWorth();
        planOfDepth();
        planOfWeeks();
        book();
        looked();
        actsWrap();
        bodiesAbove();
        trace();
        imageOfEach();
        imageOfRows();
        imageIsKept();
        CHECK.end();
    }

    private static ThawGives one(int kind, int v, int worth, int depth) {
        ThawGives x = new ThawGives();
        CHECK.due("thing", x.thing(kind, v, worth, depth), 0);
        return x;
    }

    private static ThawGives with(ThawGives x, String text) {
        CHECK.due("col of " + text, Check.col(x, text), x.count(1) - 1);
        return x;
    }

    // ---- ON, WHEN, ORDER, CROSSED

    private static void beyondTheLastWeek() {
        CHECK.by("goes on from how all is (WEEKS beyond 9999, too)");
        ThawGives x = one(4, 0, 0, 90);
        Check.pass(x, 9999);
        x.set(0, 1, 90);
        with(x, "snow 3");
        x.see(0, 2, false);
        x.plan(0, 0);
        x.plan(0, 0);
        CHECK.due("told(0)", x.told(0), 9999);
        // behind each WEEK from 9999 on: 80, 63 (20 melt in WEEK 10000, with 3 SNOW), 53, 43, 33, 13, 6 (3 SNOW), OUT
        CHECK.due("on(2, 10)", x.on(2, 10), 63);
        CHECK.due("of(0, 5)", x.of(0, 5), 8);
        CHECK.due("told(10)", x.told(10), 0);
        CHECK.due("melts(0, 1)", x.melts(0, 1), 20);
        CHECK.due("by(0, 7, 0)", x.by(0, 7, 0), 0);
        CHECK.due("by(0, 8, 1)", x.by(0, 8, 1), 9);
        CHECK.due("by(0, 9, 1)", x.by(0, 9, 1), 19);
        CHECK.due("need(0, 7, 1)", x.need(0, 7, 1), 0);
        CHECK.due("need(0, 8, 1)", x.need(0, 8, 1), 5);
        CHECK.due("need(0, 9, 1)", x.need(0, 9, 1), -5);
        CHECK.due("need(0, 9, 0)", x.need(0, 9, 0), 0);
        CHECK.due("can(0, 1, 1)", x.can(0, 1, 1), 31);
        CHECK.due("odds(0, 9, 1)", x.odds(0, 9, 1), 5);
        CHECK.due("mean(2, 0)", x.mean(2, 0), 63);
        CHECK.due("ends(0)", x.ends(0), 63);
        CHECK.due("told(0)", x.told(0), 9999);
        CHECK.due("pass(1)", x.pass(1), -3);
    }

    private static void on() {
        CHECK.by("ON n WEEKS (0 .. 60): DEPTH of a THING; which are OUT (bits)");
        ThawGives x = with(one(0, 0, 0, 60), SLOW);
        x.thing(0, 0, 0, 59);
        x.thing(0, 0, 0, 61);
        x.thing(0, 0, 0, 0);
        int[][] due = {{0, 60, 59, 61, 0, 8}, {1, 59, 58, 60, 0, 8}, {59, 1, 0, 2, 0, 10}, {60, 0, 0, 1, 0, 11}};
        for (int[] row : due) {
            for (int p = 0; p <= 3; p++) {
                CHECK.due("on(" + row[0] + ", 1" + p + ")", x.on(row[0], 10 + p), row[1 + p]);
            }
            CHECK.due("on(" + row[0] + ", 0)", x.on(row[0], 0), row[5]);
        }
        for (int what : new int[] {0, 10, 13}) {
            CHECK.due("on(-1, " + what + ")", x.on(-1, what), -2);
            CHECK.due("on(61, " + what + ")", x.on(61, what), -2);
        }
        CHECK.due("on(61, 14)", x.on(61, 14), -1);
        CHECK.due("on(0, 14)", x.on(0, 14), -1);
        x.thing(0, 0, 0, 0);
        x.thing(0, 0, 0, 60);
        CHECK.due("all six", x.on(60, 0), 59);
        x.set(2, 1, 60);
        CHECK.due("all six", x.on(60, 0), 63);
        CHECK.due("without THINGS", new ThawGives().on(60, 0), 0);
    }

    private static void when() {
        CHECK.by("WHEN of a THING: the fewest WEEKS (0 .. 60) behind which it is OUT (-5: not by then)");
        int[][] due = {{0, 0}, {1, 1}, {2, 2}, {59, 59}, {60, 60}, {61, -5}, {99, -5}};
        for (int[] row : due) {
            CHECK.due("DEPTH " + row[0], with(one(0, 0, 0, row[0]), SLOW).of(0, 5), row[1]);
        }
        CHECK.due("never", one(0, 0, 80, 1).of(0, 5), -5);
        // from how all is now, not from WEEK 0
        ThawGives x = with(one(0, 0, 0, 70), SLOW);
        CHECK.due("70", x.of(0, 5), -5);
        x.pass(10);
        CHECK.due("60 left", x.of(0, 5), 60);
        x.pass(59);
        CHECK.due("1 left", x.of(0, 5), 1);
        x.pass(1);
        CHECK.due("OUT", x.of(0, 5), 0);
        ThawGives knife = one(4, 0, 0, 20);
        CHECK.due("20 melt in WEEK 0", knife.of(0, 5), 1);
        knife.pass(1);
        knife.set(0, 1, 20);
        CHECK.due("10 in WEEK 1", knife.of(0, 5), 2);
        ThawGives living = one(3, 9, 0, 8);
        CHECK.due("0 ahead of WEEK 9", living.of(0, 5), 10);
        living.pass(8);
        CHECK.due("from WEEK 8", living.of(0, 5), 2);
        ThawGives snow = with(one(0, 0, 0, 16), "snow 8");
        CHECK.due("SNOW in WEEK 0", snow.of(0, 5), 3);
        snow.pass(0);
        snow.set(0, 1, 48);
        CHECK.due("SNOW in WEEKS 0 and 5", snow.of(0, 5), 8);
    }

    private static void order() {
        CHECK.by("ORDER: THINGS by WHEN, -5 last, of several the first by number: the k-th");
        int[][] depths = {
            {5, 5, 5, 5, 5, 5}, {99, 60, 61, 0, 60, 0}, {6, 5, 4, 3, 2, 1}, {61, 0, 99, 0, 61, 60}, {99, 98, 97, 96, 95, 94},
        };
        int[][] due = {{0, 1, 2, 3, 4, 5}, {3, 5, 1, 4, 0, 2}, {5, 4, 3, 2, 1, 0}, {1, 3, 5, 0, 2, 4}, {0, 1, 2, 3, 4, 5}};
        for (int i = 0; i < depths.length; i++) {
            ThawGives x = with(new ThawGives(), SLOW);
            for (int p = 0; p < 6; p++) {
                x.thing(0, 0, 0, depths[i][p]);
            }
            for (int k = 0; k < 6; k++) {
                CHECK.due("row " + i + ", the " + k + "-th", x.told(10 + k), due[i][k]);
            }
            CHECK.due("told(9)", x.told(9), -1);
            CHECK.due("told(16)", x.told(16), -1);
        }
        ThawGives x = new ThawGives();
        CHECK.due("without THINGS", x.told(10), -1);
        x.thing(0, 0, 0, 5);
        CHECK.due("of one", x.told(10), 0);
        CHECK.due("of one", x.told(11), -1);
    }

    private static ThawGives pair(int worth, int when, int otherWorth, int otherWhen) {
        ThawGives x = one(0, 0, worth, when < 0 ? 61 : when);
        x.thing(0, 0, otherWorth, otherWhen < 0 ? 61 : otherWhen);
        return with(x, SLOW);
    }

    private static void crossedByEach() {
        CHECK.by("CROSSED: the one that has more WORTH has the lesser WHEN (-5 being greater than all)");
        int[] whens = {0, 1, 60, -5};
        for (int a = 0; a < whens.length; a++) {
            for (int b = 0; b < whens.length; b++) {
                // whens rises, so the places tell which is the lesser
                CHECK.due("more, " + whens[a] + ", " + whens[b], pair(5, whens[a], 4, whens[b]).told(4), a < b ? 1 : 0);
                CHECK.due("less, " + whens[a] + ", " + whens[b], pair(4, whens[a], 5, whens[b]).told(4), b < a ? 1 : 0);
                CHECK.due("alike, " + whens[a] + ", " + whens[b], pair(5, whens[a], 5, whens[b]).told(4), 0);
                CHECK.due("first, " + whens[a] + ", " + whens[b], pair(5, whens[a], 4, whens[b]).told(5), a < b ? 1 : -5);
            }
        }
    }

    private static void crossedFirst() {
        CHECK.by("CROSSED: the first (10 times the lesser and the greater number; -5: none)");
        ThawGives x = with(new ThawGives(), SLOW);
        CHECK.due("without THINGS", x.told(4), 0);
        CHECK.due("without THINGS", x.told(5), -5);
        x.thing(0, 0, 9, 10);
        CHECK.due("of one", x.told(4), 0);
        CHECK.due("of one", x.told(5), -5);
        for (int p = 1; p <= 5; p++) {
            x.thing(0, 0, 9 - p, 10 + p);
        }
        CHECK.due("every pair", x.told(4), 15);
        CHECK.due("every pair", x.told(5), 1);
        x.set(0, 1, 99);
        CHECK.due("0 is last, and dearest", x.told(4), 10);
        CHECK.due("0 is last, and dearest", x.told(5), 12);
        for (int p = 1; p <= 3; p++) {
            x.set(p, 0, 9);
            x.set(p, 1, 99);
        }
        CHECK.due("the last pair alone", x.told(4), 1);
        CHECK.due("the last pair alone", x.told(5), 45);
        x.set(0, 0, 0);
        x.set(0, 1, 11);
        CHECK.due("the less dear of it", x.told(5), 45);
        x.set(5, 0, 9);
        x.set(0, 1, 99);
        CHECK.due("0 and 4, 0 and 5", x.told(4), 2);
        CHECK.due("0 and 4, 0 and 5", x.told(5), 4);
        x.set(4, 0, 0);
        CHECK.due("0 and 5 alone", x.told(5), 5);
        x.set(1, 0, 0);
        x.set(2, 0, 9);
        x.set(2, 1, 0);
        CHECK.due("0 and 2, 0 and 5, 1 and 2, 1 and 5, 2 and 4", x.told(4), 5);
        x.set(0, 0, 8);
        CHECK.due("0 and 2, 0 and 5 still", x.told(5), 2);
        x.set(2, 0, 8);
        CHECK.due("0 and 5 ahead of 1 and 2", x.told(5), 5);
    }

    // ---- BY, LESS, KEPT

    private static void by() {
        CHECK.by("BY of a THING and n WEEKS (0 .. 30): how many numbers (0 .. 99); the greatest (-5: none)");
        ThawGives out = one(0, 0, 50, 0);
        ThawGives deep = one(0, 0, 0, 1);
        for (int n : new int[] {0, 30}) {
            CHECK.due("OUT: how many", out.by(0, n, 0), 100);
            CHECK.due("OUT: the greatest", out.by(0, n, 1), 99);
        }
        CHECK.due("behind 0: how many", deep.by(0, 0, 0), 0);
        CHECK.due("behind 0: the greatest", deep.by(0, 0, 1), -5);
        CHECK.due("behind 1: how many", deep.by(0, 1, 0), 80);
        CHECK.due("behind 1: the greatest", deep.by(0, 1, 1), 79);
        ThawGives slow = with(one(0, 0, 0, 30), SLOW);
        CHECK.due("30 in 30", slow.by(0, 30, 0), 10);
        CHECK.due("30 in 29", slow.by(0, 29, 0), 0);
        slow.set(0, 1, 31);
        CHECK.due("31 in 30", slow.by(0, 30, 0), 0);
        CHECK.due("31 in 30", slow.by(0, 30, 1), -5);
        CHECK.due("by(0, 31, 0)", slow.by(0, 31, 0), -2);
        CHECK.due("by(0, -1, 0)", slow.by(0, -1, 0), -2);
        // by the least alone, by the greatest alone
        CHECK.due("0 .. 9", with(one(0, 0, 50, 99), "warm 91 w=0").by(0, 1, 1), 9);
        CHECK.due("90 .. 99", with(one(0, 0, 50, 99), "warm 99 w=9;warm 1 w=9").by(0, 1, 1), 99);
        CHECK.due("90 .. 99", with(one(0, 0, 50, 99), "warm 99 w=9;warm 1 w=9").by(0, 1, 0), 10);
        CHECK.due("all by all others", with(one(0, 0, 50, 90), "warm 99 w<5;warm 99 w>5").by(0, 1, 0), 90);
    }

    private static void less() {
        CHECK.by("LESS of a THING and n WEEKS (0 .. 30): the least number (0 .. 99) (-5: none)");
        ThawGives x = one(0, 0, 99, 8);
        CHECK.due("behind 0", x.need(0, 0, 0), -5);
        CHECK.due("behind 1", x.need(0, 1, 0), 90);
        CHECK.due("behind 2", x.need(0, 2, 0), 50);
        CHECK.due("behind 8", x.need(0, 8, 0), 20);
        CHECK.due("behind 30", x.need(0, 30, 0), 20);
        CHECK.due("need(0, 31, 0)", x.need(0, 31, 0), -2);
        CHECK.due("need(0, -1, 0)", x.need(0, -1, 0), -2);
        x.set(0, 0, 9);
        CHECK.due("0 is enough", x.need(0, 1, 0), 0);
        x.set(0, 0, 10);
        CHECK.due("1 is", x.need(0, 1, 0), 1);
        x.set(0, 1, 0);
        CHECK.due("OUT", x.need(0, 0, 0), 0);
        ThawGives slow = with(one(0, 0, 15, 30), SLOW);
        CHECK.due("30 in 30", slow.need(0, 30, 0), 6);
        CHECK.due("30 in 29", slow.need(0, 29, 0), -5);
        CHECK.by("WORTH must be less now (0 at least)");
        CHECK.due("from 0", one(0, 0, 0, 9).need(0, 1, 0), -5);
        CHECK.due("from 0, not to what is above", with(one(0, 0, 0, 9), "warm 50 w>0").need(0, 1, 0), -5);
        CHECK.due("from 5", one(0, 0, 5, 9).need(0, 1, 0), -5);
        CHECK.due("from 5, OUT by 0", with(one(0, 0, 5, 9), "warm 1 w=0").need(0, 1, 0), 0);
    }

    private static void lessIsTheLeast() {
        CHECK.by("LESS: the least number by which WORTH must be less");
        ThawGives x = with(one(0, 0, 75, 50), "warm 60 w=3;warm 60 w=5;warm 60 w=9");
        CHECK.due("to 59, not to 39", x.need(0, 1, 0), 16);
        x.set(0, 0, 59);
        CHECK.due("now", x.need(0, 1, 0), 0);
        x.set(0, 0, 49);
        CHECK.due("to 39", x.need(0, 1, 0), 10);
        x.set(0, 0, 29);
        CHECK.due("none below", x.need(0, 1, 0), -5);
    }

    private static void kept() {
        CHECK.by("KEPT of a THING and n WEEKS (0 .. 30): the least number (0 .. 99) (-5: none; 0, if it is not)");
        ThawGives x = one(0, 0, 0, 8);
        CHECK.due("behind 0", x.need(0, 0, 1), 0);
        CHECK.due("behind 1", x.need(0, 1, 1), 1);
        CHECK.due("behind 2", x.need(0, 2, 1), 9);
        CHECK.due("behind 12", x.need(0, 12, 1), 89);
        CHECK.due("behind 13", x.need(0, 13, 1), -5);
        CHECK.due("behind 30", x.need(0, 30, 1), -5);
        CHECK.due("need(0, 31, 1)", x.need(0, 31, 1), -2);
        CHECK.due("need(0, -1, 1)", x.need(0, -1, 1), -2);
        x.set(0, 1, 0);
        CHECK.due("OUT, behind 0", x.need(0, 0, 1), 1);
        CHECK.due("OUT, behind 1", x.need(0, 1, 1), 9);
        x.set(0, 1, 9);
        CHECK.due("it is not OUT", x.need(0, 1, 1), 0);
        ThawGives slow = with(one(0, 0, 0, 30), SLOW);
        CHECK.due("30 in 30", slow.need(0, 30, 1), 1);
        CHECK.due("30 in 29", slow.need(0, 29, 1), 0);
    }

    private static void keptAtMost() {
        CHECK.by("the least number (0 .. 99) that must be more of DEPTH now (99 at most)");
        ThawGives x = with(one(0, 0, 0, 0), "warm 90 p=0");
        CHECK.due("99, from 0", x.need(0, 1, 1), 99);
        x.set(0, 1, 1);
        CHECK.due("98, from 1", x.need(0, 1, 1), 98);
        x.set(0, 1, 98);
        CHECK.due("1, from 98", x.need(0, 1, 1), 1);
        x.set(0, 1, 99);
        CHECK.due("0, from 99", x.need(0, 1, 1), 0);
        with(x, "warm 91 p=0");
        CHECK.due("99 are too few", x.need(0, 1, 1), -5);
        x.set(0, 1, 50);
        CHECK.due("149 would do", x.need(0, 1, 1), -5);
        x.set(0, 1, 0);
        CHECK.due("from 0", x.need(0, 1, 1), -5);
        with(x, "warm 99 d>2");
        x.set(0, 1, 50);
        CHECK.due("what is less deep does not count", x.need(0, 1, 1), -5);
        x.set(0, 1, 0);
        with(x, "warm 99 d=1;warm 99 d>2");
        CHECK.due("the least, though more is none", x.need(0, 1, 1), 9);
    }

    // ---- SEEN

    private static void seenWeeks() {
        CHECK.by("SEEN: a THING, WEEKS n (0 .. 20) from now, whether it is OUT behind them");
        ThawGives x = with(one(0, 0, 0, 50), SLOW);
        CHECK.due("n -1", x.see(0, -1, true), -2);
        CHECK.due("n 21", x.see(0, 21, true), -2);
        CHECK.due("n 20", x.see(0, 20, true), 1);
        CHECK.due("20 or less", x.can(0, 1, 0), 21);
        CHECK.due("n 20", x.see(0, 20, false), 2);
        CHECK.due("both", x.can(0, 1, 0), 0);
        CHECK.due("none then", x.see(-1, 0, false), 0);
        CHECK.due("n 20", x.see(0, 20, false), 1);
        CHECK.due("21 and more", x.can(0, 1, 1), 21);
        CHECK.due("n 0", x.see(0, 0, true), 2);
        CHECK.due("0 alone, and not", x.can(0, 1, 0), 0);
        x.see(-1, 0, false);
        x.see(0, 0, true);
        CHECK.due("0 alone", x.can(0, 1, 0), 1);
        CHECK.due("0 alone", x.can(0, 1, 1), 0);
        x.see(-1, 0, false);
        x.see(0, 0, false);
        CHECK.due("1 .. 99", x.can(0, 1, 0), 99);
        CHECK.due("1 .. 99", x.can(0, 1, 1), 1);
        CHECK.by("SEEN: WEEKS n from now: goes on from how all is");
        ThawGives y = with(one(0, 0, 0, 50), SLOW);
        y.see(0, 5, false);
        CHECK.due("6 .. 99", y.can(0, 1, 1), 6);
        y.pass(3);
        CHECK.due("from WEEK 3, too", y.can(0, 1, 1), 6);
    }

    private static void seenRows() {
        CHECK.by("SEEN (5 rows at most); see(-1): none then, 0, whatever the rest is");
        ThawGives x = one(0, 0, 0, 50);
        for (int i = 1; i <= 5; i++) {
            CHECK.due("see", x.see(0, 5, i < 5), i);
        }
        CHECK.due("the fifth counts", x.can(0, 0, 0), 0);
        CHECK.due("one more", x.see(0, 5, true), -4);
        int[] rests = {0, 20, -1, 21, MIN, MAX};
        for (int n : rests) {
            CHECK.due("see(-1, " + n + ")", x.see(-1, n, n > 0), 0);
            CHECK.due("count(2)", x.count(2), 0);
            CHECK.due("all of them", x.can(0, 0, 0), 100);
            CHECK.due("one comes", x.see(0, 5, true), 1);
        }
        CHECK.due("without THINGS", new ThawGives().see(-1, 99, true), 0);
        CHECK.due("empty already", one(0, 0, 0, 0).see(-1, 0, true), 0);
    }

    private static void canOf(String name, ThawGives x, int which, int many, int least) {
        CHECK.due(name + ": how many", x.can(0, which, 0), many);
        CHECK.due(name + ": the least", x.can(0, which, 1), least);
    }

    private static void worths() {
        CHECK.by("WORTHS, how many numbers (0 .. 99); the least (-5: none)");
        ThawGives x = one(0, 0, 50, 8);
        canOf("nothing SEEN", x, 0, 100, 0);
        x.see(0, 1, true);
        canOf("OUT behind 1", x, 0, 10, 0);
        x.see(-1, 0, true);
        x.see(0, 1, false);
        canOf("not OUT behind 1", x, 0, 90, 10);
        x.see(0, 1, true);
        canOf("both", x, 0, 0, -5);
        ThawGives dear = with(one(0, 0, 0, 99), "warm 99 w=9;warm 1 w=9");
        dear.see(0, 1, true);
        canOf("the greatest", dear, 0, 10, 90);
    }

    private static void depths() {
        CHECK.by("DEPTHS (0 .. 99); the least (-5: none)");
        ThawGives x = one(0, 0, 0, 50);
        canOf("nothing SEEN", x, 1, 100, 0);
        x.see(0, 12, false);
        canOf("97 and more", x, 1, 3, 97);
        x.see(-1, 0, true);
        with(x, "warm 90 p=0");
        x.see(0, 1, false);
        canOf("99 alone", x, 1, 1, 99);
        with(x, "warm 91 p=0");
        canOf("none", x, 1, 0, -5);
        x.see(-1, 0, true);
        x.see(0, 0, true);
        canOf("0 alone", x, 1, 1, 0);
    }

    private static void can() {
        CHECK.by("CAN (v, 0 .. 9); the least (-5: none)");
        ThawGives x = one(5, 0, 0, 13);
        canOf("nothing SEEN", x, 2, 10, 0);
        x.see(0, 1, true);
        canOf("9 alone", x, 2, 1, 9);
        x.set(0, 1, 14);
        canOf("none", x, 2, 0, -5);
        x.see(-1, 0, true);
        x.see(0, 1, false);
        canOf("all", x, 2, 10, 0);
        ThawGives living = one(3, 9, 0, 8);
        living.see(0, 1, true);
        canOf("0 alone", living, 2, 1, 0);
        living.see(0, 0, false);
        canOf("0 alone, still", living, 2, 1, 0);
        ThawGives late = one(3, 0, 0, 8);
        late.see(0, 9, false);
        canOf("9 alone", late, 2, 1, 9);
    }

    private static void seenOfEachItsOwn() {
        CHECK.by("all of SEEN that is of it is so");
        ThawGives x = one(0, 0, 0, 8);
        x.thing(0, 0, 0, 8);
        x.see(0, 1, true);
        x.see(1, 1, false);
        x.see(0, 0, false);
        canOf("of 0", x, 0, 10, 0);
        CHECK.due("of 1: how many", x.can(1, 0, 0), 90);
        CHECK.due("of 1: the least", x.can(1, 0, 1), 10);
        CHECK.due("of 1: DEPTHS", x.can(1, 1, 0), 91);
        canOf("of 0: DEPTHS", x, 1, 8, 1);
    }

    // ---- ODDS, MEAN

    private static void odds() {
        CHECK.by("ODDS of a THING and n WEEKS (0 .. 30): a fraction in lowest terms");
        int[][] due = {{0, 0, 1}, {1, 1, 10}, {2, 1, 5}, {3, 3, 10}, {4, 2, 5}, {5, 1, 2}, {6, 3, 5}, {7, 7, 10}, {8, 4, 5}};
        for (int[] row : due) {
            // OUT behind 1 by the WORTHS of as many tenths
            ThawGives x = one(0, 0, 99, row[0] == 0 ? 9 : 9 - row[0]);
            CHECK.due(row[0] + " tenths: above", x.odds(0, 1, 0), row[1]);
            CHECK.due(row[0] + " tenths: below", x.odds(0, 1, 1), row[2]);
        }
        ThawGives nine = with(one(0, 0, 99, 1), "warm 1 p=0");
        CHECK.due("9 tenths: above", nine.odds(0, 1, 0), 9);
        CHECK.due("9 tenths: below", nine.odds(0, 1, 1), 10);
        ThawGives out = one(0, 0, 99, 0);
        for (int n : new int[] {0, 30}) {
            CHECK.due("OUT: above", out.odds(0, n, 0), 1);
            CHECK.due("OUT: below", out.odds(0, n, 1), 1);
        }
        ThawGives slow = with(one(0, 0, 99, 30), SLOW);
        CHECK.due("30 in 30", slow.odds(0, 30, 1), 10);
        CHECK.due("30 in 29", slow.odds(0, 29, 1), 1);
        for (int part = 0; part <= 1; part++) {
            CHECK.due("odds(0, 31, " + part + ")", slow.odds(0, 31, part), ThawGives.NO);
            CHECK.due("odds(0, -1, " + part + ")", slow.odds(0, -1, part), ThawGives.NO);
            CHECK.due("odds(1, 0, " + part + ")", slow.odds(1, 0, part), ThawGives.NO);
            CHECK.due("odds(-1, 0, " + part + ")", slow.odds(-1, 0, part), ThawGives.NO);
        }
        CHECK.due("odds(0, 0, 2)", slow.odds(0, 0, 2), ThawGives.NO);
        CHECK.due("odds(0, 0, -1)", slow.odds(0, 0, -1), ThawGives.NO);
    }

    private static void meanOf(String name, ThawGives x, int n, long above, long below) {
        CHECK.due(name + ": above", x.mean(n, 0), above);
        CHECK.due(name + ": below", x.mean(n, 1), below);
    }

    private static void mean() {
        CHECK.by("MEAN of n WEEKS (0 .. 60): a fraction in lowest terms (NO: there are none)");
        ThawGives x = with(new ThawGives(), SLOW);
        for (int n : new int[] {-1, 0, 60, 61}) {
            meanOf("without THINGS", x, n, ThawGives.NO, ThawGives.NO);
        }
        x.thing(0, 0, 0, 61);
        meanOf("of one", x, 0, 61, 1);
        meanOf("of one", x, 60, 1, 1);
        meanOf("of one", x, -1, ThawGives.NO, ThawGives.NO);
        meanOf("of one", x, 61, ThawGives.NO, ThawGives.NO);
        x.thing(0, 0, 0, 61);
        meanOf("of two", x, 60, 1, 1);
        x.set(1, 1, 60);
        meanOf("of two", x, 60, 1, 2);
        x.thing(0, 0, 0, 0);
        meanOf("of three", x, 60, 1, 3);
        meanOf("of three", x, 0, 121, 3);
        int[] together = {0, 1, 2, 3, 4, 5, 6, 7, 8, 9};
        int[][] sixths = {{0, 1}, {1, 6}, {1, 3}, {1, 2}, {2, 3}, {5, 6}, {1, 1}, {7, 6}, {4, 3}, {3, 2}};
        for (int i = 0; i < together.length; i++) {
            ThawGives six = one(0, 0, 0, together[i]);
            for (int p = 1; p < 6; p++) {
                six.thing(0, 0, 0, 0);
            }
            meanOf(i + " by 6", six, 0, sixths[i][0], sixths[i][1]);
        }
        ThawGives all = new ThawGives();
        for (int p = 0; p < 6; p++) {
            all.thing(0, 0, 0, 99);
        }
        meanOf("all 99", all, 0, 99, 1);
        all.set(0, 1, 98);
        meanOf("one less", all, 0, 593, 6);
        CHECK.due("mean(0, 2)", all.mean(0, 2), ThawGives.NO);
        CHECK.due("mean(0, -1)", all.mean(0, -1), ThawGives.NO);
    }

    // ---- a PLAN, a BOOK

    private static void endsOf(String name, ThawGives x, int together, int bits) {
        CHECK.due(name + ": DEPTH", x.ends(0), together);
        CHECK.due(name + ": OUT", x.ends(1), bits);
    }

    private static void planRows() {
        CHECK.by("A PLAN (10 rows at most); plan(-1): it is empty then, 0, whatever the rest is");
        ThawGives x = with(one(0, 0, 0, 50), SLOW);
        x.thing(0, 0, 0, 9);
        endsOf("empty", x, 59, 0);
        for (int i = 1; i <= 10; i++) {
            CHECK.due("plan", x.plan(0, 0), i);
            endsOf(i + " rows", x, 50 - i + Math.max(0, 9 - i), i >= 9 ? 2 : 0);
        }
        CHECK.due("one more", x.plan(0, 0), -4);
        CHECK.due("one more", x.plan(1, 0), -4);
        endsOf("ten", x, 40, 2);
        for (int rest : new int[] {0, 1, -1, 2, MIN, MAX}) {
            CHECK.due("plan(-1, " + rest + ")", x.plan(-1, rest), 0);
            CHECK.due("count(3)", x.count(3), 0);
            endsOf("empty", x, 59, 0);
            CHECK.due("one comes", x.plan(1, 0), 1);
        }
        CHECK.due("without THINGS", new ThawGives().plan(-1, 0), 0);
        CHECK.by("a PLAN: thing (by 1, 2; by 0, 3 it does not matter)");
        ThawGives none = new ThawGives();
        int[] any = {0, -1, 6, MIN, MAX};
        for (int i = 0; i < any.length; i++) {
            CHECK.due("plan(0, " + any[i] + ")", none.plan(0, any[i]), 2 * i + 1);
            CHECK.due("plan(3, " + any[i] + ")", none.plan(3, any[i]), 2 * i + 2);
        }
        none.plan(-1, 0);
        for (int thing : any) {
            CHECK.due("plan(1, " + thing + ")", none.plan(1, thing), -1);
            CHECK.due("plan(2, " + thing + ")", none.plan(2, thing), -1);
        }
        endsOf("without THINGS", none, 0, 0);
    }

    private static void planOfWorth() {
        CHECK.by("2 WORTH of a THING is 10 less (0 at least)");
        // what it MELTS behind that tells its WORTH
        int[][] due = {{0, 8}, {5, 8}, {9, 8}, {10, 8}, {19, 8}, {20, 7}, {29, 7}, {99, 0}};
        for (int[] row : due) {
            ThawGives x = one(0, 0, row[0], 50);
            x.plan(2, 0);
            x.plan(0, 0);
            endsOf("from " + row[0], x, 50 - row[1], 0);
            CHECK.due("WORTH stays", x.of(0, 2), row[0]);
        }
        ThawGives x = with(one(0, 0, 15, 50), "warm 20 w=0;warm 9 w=1");
        x.plan(2, 0);
        x.plan(2, 0);
        x.plan(2, 0);
        x.plan(0, 0);
        endsOf("thrice from 15", x, 22, 0);
        ThawGives two = one(0, 0, 50, 50);
        two.thing(0, 0, 50, 50);
        two.plan(2, 1);
        two.plan(0, 0);
        endsOf("of 1 alone", two, 93, 0);
    }

    private static void planOfDepth() {
        CHECK.by("1 DEPTH of a THING is 0");
        ThawGives x = one(0, 0, 80, 50);
        x.thing(0, 0, 80, 40);
        x.plan(1, 1);
        endsOf("of 1", x, 50, 2);
        x.plan(1, 1);
        endsOf("of one that is OUT", x, 50, 2);
        x.plan(1, 0);
        endsOf("of both", x, 0, 3);
        CHECK.by("3 DEPTH of all that are not OUT is 10 more (99 at most)");
        int[][] due = {{0, 0}, {1, 11}, {88, 98}, {89, 99}, {90, 99}, {99, 99}};
        for (int[] row : due) {
            ThawGives y = one(0, 0, 80, row[0]);
            y.plan(3, 0);
            endsOf("from " + row[0], y, row[1], row[0] == 0 ? 1 : 0);
        }
        ThawGives all = one(0, 0, 80, 95);
        all.thing(0, 0, 80, 0);
        all.thing(0, 0, 80, 7);
        all.plan(3, 1);
        endsOf("of all", all, 99 + 17, 2);
        all.plan(3, 2);
        endsOf("twice", all, 99 + 27, 2);
    }

    private static void planOfWeeks() {
        CHECK.by("0 a WEEK");
        ThawGives x = with(one(0, 0, 80, 50), "snow 5");
        for (int i = 1; i <= 7; i++) {
            x.plan(0, 0);
            endsOf(i + " WEEKS", x, i >= 6 ? 60 : 55, 0);
        }
        x.pass(3);
        endsOf("from WEEK 3", x, 60, 0);
        ThawGives y = with(one(0, 0, 0, 8), "snow 5");
        y.plan(0, 0);
        y.plan(3, 0);
        endsOf("OUT stays OUT", y, 0, 1);
        ThawGives z = with(one(0, 0, 0, 8), "snow 5");
        z.plan(3, 0);
        z.plan(0, 0);
        endsOf("row by row", z, 15, 0);
    }

    private static void book() {
        CHECK.by("A BOOK: THINGS, DEPTH (0 .. 99; 8 at most); book(-1): it is empty then, 0, whatever the rest is");
        ThawGives x = one(0, 0, 0, 99);
        x.thing(0, 0, 0, 0);
        CHECK.due("depth -1", x.book(0, -1), -2);
        CHECK.due("depth 100", x.book(0, 100), -2);
        for (int i = 1; i <= 8; i++) {
            CHECK.due("book", x.book(i % 2, i % 2 == 0 ? 99 : 0), i);
            CHECK.due("looked()", x.looked(), -5);
        }
        CHECK.due("one more", x.book(0, 99), -4);
        CHECK.due("one more, otherwise", x.book(0, 98), -4);
        CHECK.due("looked()", x.looked(), -5);
        for (int rest : new int[] {0, 99, -1, 100, MIN, MAX}) {
            CHECK.due("book(-1, " + rest + ")", x.book(-1, rest), 0);
            CHECK.due("count(4)", x.count(4), 0);
            CHECK.due("looked()", x.looked(), -5);
            CHECK.due("one comes", x.book(0, 98), 1);
            CHECK.due("looked()", x.looked(), 0);
        }
        CHECK.due("without THINGS", new ThawGives().book(-1, 0), 0);
    }

    private static void looked() {
        CHECK.by("LOOKED at: the number (from 0) of the first by which it is otherwise now (-5: none)");
        ThawGives x = one(0, 0, 0, 50);
        CHECK.due("empty", x.looked(), -5);
        for (int i = 0; i < 8; i++) {
            x.book(0, i == 7 ? 49 : 50);
        }
        CHECK.due("the last", x.looked(), 7);
        x.set(0, 1, 49);
        CHECK.due("the first", x.looked(), 0);
        x.set(0, 1, 51);
        CHECK.due("the first of all", x.looked(), 0);
        x.book(-1, 0);
        x.book(0, 51);
        x.book(0, 52);
        x.book(0, 50);
        CHECK.due("the second", x.looked(), 1);
        x.book(-1, 0);
        x.thing(0, 0, 0, 51);
        x.book(1, 51);
        x.set(0, 1, 8);
        x.book(0, 8);
        CHECK.due("as told", x.looked(), -5);
        x.pass(1);
        CHECK.due("now", x.looked(), 0);
        x.set(1, 1, 51);
        CHECK.due("the one that is OUT now", x.looked(), 1);
    }

    // ---- ACTS

    private static void actsWrap() {
        CHECK.by("ACTS with x (wrapping)");
        ThawGives x = new ThawGives();
        for (int kind = 0; kind <= 5; kind++) {
            x.thing(kind, 9, 0, 50);
        }
        CHECK.due("x + i, i 0", x.act(0, 0, MAX), MAX);
        CHECK.due("x + i, i 1", x.act(1, 0, MAX), MIN);
        CHECK.due("x + i, i 3", x.act(3, 0, MAX), MIN + 2);
        CHECK.due("- v", x.act(0, 1, MIN), MAX - 8);
        CHECK.due("- v, still above", x.act(0, 1, MIN + 9), MIN);
        CHECK.due("* 2", x.act(0, 2, (1 << 30) + 9), MIN);
        CHECK.due("* 2, still below", x.act(0, 2, (1 << 30) + 8), MAX - 1);
        CHECK.due("* 3", x.act(2, 0, 1 << 30), (1 << 30) * 3 + 2);
        CHECK.due("-MIN", x.act(4, 0, MIN - 4), MIN);
        CHECK.due("x + 1", x.act(4, 1, MAX), 2147483635 ^ 6);
        CHECK.due("x - i", x.act(5, 2, MIN), -38);
        CHECK.due("a sum, still below", x.act(3, 2, (1 << 30) + 5), MAX - 6);
        CHECK.due("a sum", x.act(3, 2, 6 - (1 << 30)), MAX - 4);
        ThawGives y = one(6, 7, 0, 50);
        CHECK.due("a sum of both", y.act(0, 1, MIN + 1), MIN + 1);
    }

    private static void bodiesAbove() {
        CHECK.by("the body of its KIND, or, if that has none, of the next KIND above that has one");
        // the first body of each act: sinks, shows, tells of KINDS 0 to 6
        int[][] first = {
            {10, 11, 12}, {10, 20, 12}, {30, 11, 12}, {10, 11, 40}, {50, 51, 12}, {30, 11, 60}, {71, 70, 40},
        };
        for (int kind = 0; kind <= 6; kind++) {
            ThawGives x = one(kind, 3, 0, 50);
            for (int act = 0; act <= 2; act++) {
                x.act(0, act, 4);
                CHECK.due("KIND " + kind + ", act " + act, x.trace(0), first[kind][act]);
            }
        }
    }

    private static void trace() {
        CHECK.by("THE TRACE: the numbers of the bodies that ran in the latest act(), as they began");
        ThawGives x = one(6, 3, 0, 50);
        CHECK.due("ahead of any", x.trace(0), -1);
        CHECK.due("ahead of any", x.count(6), 0);
        int[] due = {40, 12, 70, 11, 71, 10, 10, 70, 11, 71, 10, 10};
        for (int again = 0; again < 3; again++) {
            x.act(0, 2, 4);
            CHECK.due("count(6)", x.count(6), due.length);
            for (int i = 0; i < due.length; i++) {
                CHECK.due("trace(" + i + ")", x.trace(i), due[i]);
            }
            for (int i : new int[] {-1, 12, 13, 19, 20, 21, MIN, MAX}) {
                CHECK.due("trace(" + i + ")", x.trace(i), -1);
            }
        }
        x.act(0, 0, 4);
        CHECK.due("a shorter one", x.count(6), 2);
        CHECK.due("a shorter one", x.trace(1), 10);
        CHECK.due("a shorter one", x.trace(2), -1);
        CHECK.by("0, and no TRACE then: no such THING, act");
        int[][] wrong = {{-1, 0}, {1, 0}, {0, -1}, {0, 3}, {6, 1}, {MIN, 1}, {MAX, 1}, {0, MIN}, {0, MAX}, {1, 3}};
        for (int[] row : wrong) {
            x.act(0, 2, 4);
            CHECK.due("act(" + row[0] + ", " + row[1] + ", 4)", x.act(row[0], row[1], 4), 0);
            CHECK.due("trace(0)", x.trace(0), -1);
            CHECK.due("count(6)", x.count(6), 0);
        }
    }

    // ---- THE IMAGE

    private static void imageOfEach() {
        CHECK.by("THE IMAGE: THINGS with all that is theirs, WEEK, SEEN, the PLAN, the BOOK, which PASS holds");
        ThawGives x = one(6, 3, 20, 60);
        x.row(0, 2, 4);
        x.see(0, 1, true);
        x.plan(0, 0);
        x.book(0, 1);
        x.pass(2);
        with(x, "warm 3 p=0;snow 2");
        CHECK.due("image()", x.image(), 1);
        int depth = x.of(0, 3);
        x.set(0, 0, 30);
        x.set(0, 1, 31);
        x.row(0, 2, 5);
        x.thing(0, 0, 0, 7);
        x.pass(1);
        x.see(0, 2, true);
        x.plan(0, 0);
        x.book(0, 2);
        with(x, "warm 9 p=0;snow 8");
        CHECK.due("undo()", x.undo(), 1);
        CHECK.due("THINGS", x.count(0), 1);
        CHECK.due("KIND", x.of(0, 0), 6);
        CHECK.due("v", x.of(0, 1), 3);
        CHECK.due("WORTH", x.of(0, 2), 20);
        CHECK.due("DEPTH", x.of(0, 3), depth);
        CHECK.due("WEEK", x.told(0), 2);
        CHECK.due("SEEN", x.count(2), 1);
        CHECK.due("the PLAN", x.count(3), 1);
        CHECK.due("the BOOK", x.count(4), 1);
        CHECK.due("which PASS holds", x.told(1), 2);
        CHECK.due("which PASS holds", x.melts(0, 1), 9);
        CHECK.due("PASSES", x.count(1), 2);
        CHECK.due("the ROW", x.row(0, 2, 4), 4);
        CHECK.due("the next THING", x.thing(6, 0, 0, 9), 1);
        CHECK.due("its ROW: 0 at first", x.row(1, 2, 1), 0);
        x.undo();
        CHECK.due("the next THING again", x.thing(6, 0, 0, 9), 1);
        CHECK.due("its ROW: 0 at first again", x.row(1, 2, 1), 0);
    }

    private static void imageOfRows() {
        CHECK.by("THE IMAGE: SEEN, the PLAN, the BOOK: row by row");
        ThawGives x = one(0, 0, 0, 8);
        x.thing(0, 0, 0, 16);
        x.see(0, 1, true);
        x.see(1, 2, true);
        x.plan(1, 0);
        x.plan(3, 0);
        x.book(0, 8);
        x.book(1, 15);
        x.image();
        // as many rows, each of them another one
        x.see(-1, 0, true);
        x.see(1, 1, true);
        x.see(0, 0, false);
        x.plan(-1, 0);
        x.plan(0, 0);
        x.plan(1, 1);
        x.book(-1, 0);
        x.book(1, 99);
        x.book(0, 99);
        for (int again = 0; again < 2; again++) {
            x.undo();
            canOf("SEEN of 0", x, 0, 10, 0);
            canOf("SEEN of 0: DEPTHS", x, 1, 9, 0);
            CHECK.due("SEEN of 1", x.can(1, 1, 0), 17);
            endsOf("the PLAN", x, 26, 1);
            CHECK.due("the BOOK", x.looked(), 1);
            x.set(0, 1, 7);
            CHECK.due("the BOOK", x.looked(), 0);
            x.see(0, 0, true);
            x.plan(1, 1);
            x.book(-1, 0);
        }
        CHECK.by("which is no part of THE IMAGE stays");
        ThawGives y = one(0, 0, 0, 50);
        y.image();
        Check.feed(y, "snow 7");
        y.tape(0, 0, 1);
        y.item(0, 0, 9);
        y.act(0, 2, 1);
        with(y, ";warm 1 p=0");
        Check.feed(y, "snow");
        y.undo();
        CHECK.due("THE TEXT", y.count(5), 4);
        CHECK.due("the TAPE", y.read(0, 0), 9);
        CHECK.due("THE TRACE", y.count(6), 3);
        CHECK.due("THE TRACE", y.trace(2), 10);
        CHECK.due("PASSES", y.count(1), 1);
        CHECK.due("none holds", y.told(1), 0);
        CHECK.due("none holds", y.of(0, 4), 8);
        Check.feed(y, " 5");
        CHECK.due("the next PASS", y.col(), 1);
        CHECK.due("it holds", y.told(1), 5);
    }

    private static void imageIsKept() {
        CHECK.by("STATE: there is none");
        ThawGives x = new ThawGives();
        CHECK.due("undo()", x.undo(), -3);
        x.thing(0, 0, 0, 50);
        CHECK.due("undo()", x.undo(), -3);
        CHECK.due("THINGS", x.count(0), 1);
        CHECK.by("THE IMAGE is taken: how many THINGS there are");
        CHECK.due("image() of one", x.image(), 1);
        x.set(0, 1, 40);
        CHECK.due("undo()", x.undo(), 1);
        CHECK.due("DEPTH", x.of(0, 3), 50);
        x.set(0, 1, 30);
        CHECK.due("undo() again", x.undo(), 1);
        CHECK.due("DEPTH", x.of(0, 3), 50);
        for (int p = 1; p < 6; p++) {
            x.thing(0, 0, 0, p);
        }
        CHECK.due("image() of six", x.image(), 6);
        CHECK.due("undo() to the newest", x.undo(), 6);
        CHECK.due("DEPTH of 5", x.of(5, 3), 5);
        ThawGives none = new ThawGives();
        CHECK.due("image() of none", none.image(), 0);
        none.thing(0, 0, 0, 50);
        CHECK.due("undo() to none", none.undo(), 0);
        CHECK.due("of(0, 0)", none.of(0, 0), -10001);
        CHECK.due("thing", none.thing(1, 0, 0, 50), 0);
    }
}
