/** Promises 9 to 11: told, pass, on; how a WEEK goes. */
public final class WeeksTest {
    private static final Check CHECK = new Check();

    public static void main(String[] args) {
        weekByWeek();
        depthEnds();
        snowInOtherWeeks();
        told();
        orderAndCrossed();
        crossedEdges();
        whenByLaterWeeks();
        pass();
        lastWeek();
        on();
        CHECK.end();
    }

    private static void weekByWeek() {
        ThawGives x = new ThawGives();
        x.thing(0, 0, 0, 20);
        x.thing(0, 0, 0, 8);
        x.thing(0, 0, 0, 9);
        x.thing(0, 0, 0, 60);
        Check.col(x, "snow 7");
        int[][] due = {
            {20, 8, 9, 60}, {19, 0, 8, 59}, {11, 0, 0, 51}, {3, 0, 0, 43}, {0, 0, 0, 35},
            {0, 0, 0, 27}, {0, 0, 0, 26}, {0, 0, 0, 18}, {0, 0, 0, 10}, {0, 0, 0, 2}, {0, 0, 0, 0},
        };
        for (int n = 0; n < due.length; n++) {
            for (int p = 0; p < 4; p++) {
                CHECK.due("on(" + n + ", 1" + p + ")", x.on(n, 10 + p), due[n][p]);
            }
        }
        for (int n = 0; n < due.length; n++) {
            for (int p = 0; p < 4; p++) {
                CHECK.due("WEEK " + n + ": DEPTH of " + p, x.of(p, 3), due[n][p]);
            }
            CHECK.due("pass(1)", x.pass(1), n + 1);
        }
    }

    /** 0 at least, 99 at most, and what is OUT stays so, whatever it melts. */
    private static void depthEnds() {
        ThawGives x = new ThawGives();
        x.thing(0, 0, 0, 90);
        x.thing(0, 0, 0, 0);
        x.thing(0, 0, 0, 50);
        Check.col(x, "frost 30 p<2;snow 99");
        CHECK.due("as much as there can be", x.on(1, 10), 99);
        CHECK.due("OUT", x.on(1, 11), 0);
        CHECK.due("snow to 99", x.on(1, 12), 99);
        CHECK.due("no more snow in WEEK 1", x.on(2, 12), 91);
        Check.col(x, "warm 92 p=2");
        CHECK.due("none below 0", x.on(1, 12), 0);
        Check.col(x, "frost 30 p=0");
        CHECK.due("grows to 99 without snow", x.on(1, 10), 99);
        CHECK.due("and stays", x.on(60, 10), 99);
    }

    private static void snowInOtherWeeks() {
        ThawGives x = new ThawGives();
        x.thing(0, 0, 80, 50);
        Check.col(x, "snow 1");
        int[] due = {50, 51, 51, 51, 51, 51, 52, 52};
        for (int n = 0; n < due.length; n++) {
            CHECK.due("snow by WEEK " + n, x.on(n, 10), due[n]);
        }
        x.pass(3);
        CHECK.due("from WEEK 3 on", x.on(2, 10), 51);
        CHECK.due("from WEEK 3 on", x.on(3, 10), 52);
    }

    private static void told() {
        ThawGives x = new ThawGives();
        x.thing(0, 0, 0, 0);
        x.thing(0, 0, 0, 41);
        x.thing(0, 0, 0, 0);
        x.thing(0, 0, 0, 99);
        x.pass(2);
        Check.col(x, "snow 33");
        CHECK.due("WEEK", x.told(0), 2);
        CHECK.due("SNOW", x.told(1), 33);
        CHECK.due("OUT", x.told(2), 5);
        x.set(1, 1, 8);
        CHECK.due("not yet OUT", x.told(2), 5);
        x.set(1, 1, 25);
        CHECK.due("DEPTH", x.told(3), 25 + 83);
        int[] none = {-1, 6, 7, 8, 9, 14, 15, 16, 100, Integer.MAX_VALUE, Integer.MIN_VALUE};
        for (int what : none) {
            CHECK.due("told(" + what + ")", x.told(what), -1);
        }
    }

    private static void orderAndCrossed() {
        ThawGives x = new ThawGives();
        x.thing(0, 0, 90, 1);
        x.thing(0, 0, 0, 8);
        x.thing(0, 0, 50, 3);
        x.thing(0, 0, 20, 12);
        x.thing(0, 0, 99, 0);
        x.thing(0, 0, 80, 5);
        int[] order = {4, 1, 2, 3, 0, 5};
        for (int k = 0; k < order.length; k++) {
            CHECK.due("ORDER " + k, x.told(10 + k), order[k]);
        }
        CHECK.due("CROSSED", x.told(4), 6);
        CHECK.due("the first", x.told(5), 4);
        x.set(4, 0, 0);
        CHECK.due("CROSSED, without 4", x.told(4), 1);
        CHECK.due("the first, without 4", x.told(5), 23);
        x.set(2, 0, 20);
        CHECK.due("as much WORTH", x.told(4), 0);
        CHECK.due("no pair", x.told(5), -5);
    }

    private static void crossedEdges() {
        ThawGives x = new ThawGives();
        x.thing(0, 0, 80, 5);
        x.thing(0, 0, 50, 3);
        CHECK.due("-5 is greater than all", x.told(4), 0);
        x.set(1, 0, 81);
        x.set(1, 1, 0);
        CHECK.due("the other one has more WORTH", x.told(4), 1);
        CHECK.due("lesser number ahead", x.told(5), 1);
        x.thing(0, 0, 99, 60);
        x.thing(0, 0, 98, 60);
        CHECK.due("neither is OUT by then", x.told(4), 1);
        x.set(0, 0, 0);
        x.set(1, 1, 6);
        CHECK.due("pairs are told from the least on", x.told(5), -5);
        x.set(3, 1, 0);
        CHECK.due("0 and 3 ahead of 1 and 3", x.told(5), 3);
        CHECK.due("0, 1 and 3", x.told(4), 2);
    }

    private static void pass() {
        ThawGives x = new ThawGives();
        x.thing(0, 0, 70, 99);
        CHECK.due("pass(61)", x.pass(61), -2);
        CHECK.due("pass(-1)", x.pass(-1), -2);
        CHECK.due("pass(0)", x.pass(0), 0);
        CHECK.due("DEPTH stays", x.of(0, 3), 99);
        CHECK.due("pass(60)", x.pass(60), 60);
        CHECK.due("DEPTH", x.of(0, 3), 39);
        CHECK.due("pass(1)", x.pass(1), 61);
        CHECK.due("DEPTH", x.of(0, 3), 38);
    }

    /** WHEN, by what is otherwise in later WEEKS. */
    private static void whenByLaterWeeks() {
        ThawGives x = new ThawGives();
        x.thing(3, 9, 0, 10);
        x.thing(0, 0, 0, 60);
        x.thing(6, 9, 0, 10);
        x.row(2, 3, 4);
        x.pass(3);
        Check.col(x, "warm 30 p=1&m=5");
        x.set(1, 1, 60);
        CHECK.due("LIVING from WEEK 9 on", x.of(0, 5), 8);
        CHECK.due("warm in WEEK 5", x.of(1, 5), 4);
        CHECK.due("ROW in WEEKS 3 and 7, all in WEEK 9", x.of(2, 5), 7);
        CHECK.due("behind WEEK 7", x.on(5, 12), 2);
        CHECK.due("ORDER", x.told(10), 1);
        CHECK.due("ORDER", x.told(11), 2);
        CHECK.due("ORDER", x.told(12), 0);
    }

    private static void lastWeek() {
        ThawGives x = new ThawGives();
        for (int i = 1; i <= 166; i++) {
            x.pass(60);
        }
        CHECK.due("WEEK", x.told(0), 9960);
        CHECK.due("pass(40)", x.pass(40), -3);
        CHECK.due("BAD ahead of STATE", x.pass(61), -2);
        CHECK.due("pass(39)", x.pass(39), 9999);
        CHECK.due("pass(1)", x.pass(1), -3);
        CHECK.due("pass(0)", x.pass(0), 9999);
        CHECK.due("WEEK", x.told(0), 9999);
        x.thing(4, 0, 0, 99);
        Check.col(x, "snow 3;warm 1 m=0");
        CHECK.due("WEEK 9999 goes", x.on(1, 10), 89);
        CHECK.due("WEEK 10000 goes", x.on(2, 10), 89 - 22 + 3);
        CHECK.due("melts in WEEK 10000", x.melts(0, 1), 22);
        CHECK.due("WHEN goes on", x.of(0, 5), 9);
    }

    private static void on() {
        ThawGives x = new ThawGives();
        CHECK.due("no THINGS", x.on(60, 0), 0);
        CHECK.due("no THING 0", x.on(0, 10), -1);
        x.thing(0, 0, 0, 16);
        x.thing(0, 0, 70, 60);
        x.thing(0, 0, 0, 0);
        CHECK.due("on(0, 0)", x.on(0, 0), 4);
        CHECK.due("on(1, 0)", x.on(1, 0), 4);
        CHECK.due("on(2, 0)", x.on(2, 0), 5);
        CHECK.due("on(59, 0)", x.on(59, 0), 5);
        CHECK.due("on(60, 0)", x.on(60, 0), 7);
        CHECK.due("on(60, 11)", x.on(60, 11), 0);
        CHECK.due("on(59, 11)", x.on(59, 11), 1);
        CHECK.due("on(61, 0)", x.on(61, 0), -2);
        CHECK.due("on(-1, 0)", x.on(-1, 0), -2);
        CHECK.due("on(61, 10)", x.on(61, 10), -2);
        CHECK.due("NONE ahead of BAD", x.on(61, 13), -1);
        int[] none = {-1, 1, 9, 13, 16, Integer.MAX_VALUE, Integer.MIN_VALUE};
        for (int what : none) {
            CHECK.due("on(0, " + what + ")", x.on(0, what), -1);
        }
        CHECK.due("nothing has changed", x.of(0, 3), 16);
        CHECK.due("nor WEEK", x.told(0), 0);
    }
}
