/** Promises 1 to 6: a new object, thing, of, set, melts, row. */
public final class ThingsTest {
    private static final Check CHECK = new Check();

    public static void main(String[] args) {
        newObject();
        thing();
        of();
        meltsByKind();
        when();
        set();
        meltsLater();
        row();
        CHECK.end();
    }

    private static void newObject() {
        ThawGives x = new ThawGives();
        for (int what = 0; what <= 6; what++) {
            CHECK.due("new: count(" + what + ")", x.count(what), 0);
        }
        for (int what = 0; what <= 4; what++) {
            CHECK.due("new: told(" + what + ")", x.told(what), 0);
        }
        CHECK.due("new: told(5)", x.told(5), -5);
        CHECK.due("new: told(10)", x.told(10), -1);
        CHECK.due("new: of(0, 0)", x.of(0, 0), -10001);
        CHECK.due("new: undo()", x.undo(), -3);
        CHECK.due("new: trace(0)", x.trace(0), -1);
        CHECK.due("new: looked()", x.looked(), -5);
        CHECK.due("new: ends(0)", x.ends(0), 0);
        for (int tape = 0; tape <= 5; tape++) {
            CHECK.due("new: item of " + tape, x.item(tape, 0, 1), -11);
            CHECK.due("new: read of " + tape, x.read(tape, 0), ThawGives.NO);
        }
        x.thing(0, 0, 0, 50);
        CHECK.due("new: no CLAUSES", x.of(0, 4), 8);
    }

    private static void thing() {
        ThawGives x = new ThawGives();
        CHECK.due("thing(-1, ..)", x.thing(-1, 0, 0, 0), -1);
        CHECK.due("thing(7, ..)", x.thing(7, 0, 0, 0), -1);
        CHECK.due("kind ahead of v", x.thing(7, 10, 0, 0), -1);
        CHECK.due("v -1", x.thing(0, -1, 0, 0), -2);
        CHECK.due("v 10", x.thing(0, 10, 0, 0), -2);
        CHECK.due("worth -1", x.thing(0, 0, -1, 0), -2);
        CHECK.due("worth 100", x.thing(0, 0, 100, 0), -2);
        CHECK.due("depth -1", x.thing(0, 0, 0, -1), -2);
        CHECK.due("depth 100", x.thing(0, 0, 0, 100), -2);
        CHECK.due("far off", x.thing(0, Integer.MIN_VALUE, Integer.MAX_VALUE, 0), -2);
        CHECK.due("none has come", x.count(0), 0);
        CHECK.due("the least", x.thing(0, 0, 0, 0), 0);
        CHECK.due("the greatest", x.thing(6, 9, 99, 99), 1);
        for (int p = 2; p <= 5; p++) {
            CHECK.due("the next", x.thing(p, p, 10 * p, 11 * p), p);
        }
        CHECK.due("the seventh", x.thing(0, 0, 0, 0), -4);
        CHECK.due("BAD ahead of FULL", x.thing(0, 10, 0, 0), -2);
        CHECK.due("NONE ahead of FULL", x.thing(7, 0, 0, 0), -1);
        CHECK.due("six", x.count(0), 6);
        CHECK.due("kind of 1", x.of(1, 0), 6);
        CHECK.due("kind of 3", x.of(3, 0), 3);
    }

    private static void of() {
        ThawGives x = new ThawGives();
        x.thing(5, 4, 35, 0);
        x.thing(1, 9, 99, 98);
        int[][] due = {{5, 4, 35, 0, 6, 0}, {1, 9, 99, 98, 1, -5}};
        for (int p = 0; p < due.length; p++) {
            for (int what = 0; what < due[p].length; what++) {
                CHECK.due("of(" + p + ", " + what + ")", x.of(p, what), due[p][what]);
            }
        }
        CHECK.due("of(2, 0)", x.of(2, 0), -10001);
        CHECK.due("of(-1, 0)", x.of(-1, 0), -10001);
        CHECK.due("of(0, -1)", x.of(0, -1), -10001);
        CHECK.due("of(0, 6)", x.of(0, 6), -10001);
        CHECK.due("of(min, max)", x.of(Integer.MIN_VALUE, Integer.MAX_VALUE), -10001);
    }

    /** SUM is 8 less a tenth of WORTH; the KINDS from 0 on. */
    private static void meltsByKind() {
        meltsOf("35 makes SUM 5", 35, 4, "", new int[] {5, 7, 2, 0, 14, 6, 0});
        meltsOf("99 makes SUM -1", 99, 0, "", new int[] {-1, 1, 0, -1, 2, 0, -1});
        meltsOf("cut toward 0", 99, 0, "frost 4 p<9", new int[] {-5, -3, -2, -5, -6, -2, -5});
        meltsOf("9 is no tenth", 9, 0, "", new int[] {8, 10, 4, 8, 20, 4, 8});
        meltsOf("10 is one", 10, 0, "", new int[] {7, 9, 3, 7, 18, 3, 7});
        meltsOf("warm", 0, 9, "warm 11 p<9;warm 2 p<9", new int[] {21, 23, 10, 0, 46, 19, 0});
    }

    private static void meltsOf(String name, int worth, int v, String text, int[] due) {
        for (int kind = 0; kind <= 6; kind++) {
            ThawGives x = new ThawGives();
            x.thing(kind, v, worth, 50);
            if (!text.isEmpty()) {
                CHECK.due(name + ": col", Check.col(x, text), 0);
            }
            CHECK.due(name + ": KIND " + kind, x.of(0, 4), due[kind]);
        }
    }

    private static void when() {
        ThawGives x = new ThawGives();
        x.thing(0, 0, 0, 0);
        x.thing(0, 0, 0, 8);
        x.thing(0, 0, 0, 9);
        x.thing(0, 0, 70, 60);
        x.thing(0, 0, 70, 61);
        x.thing(0, 0, 80, 1);
        int[] due = {0, 1, 2, 60, -5, -5};
        for (int p = 0; p < due.length; p++) {
            CHECK.due("WHEN of " + p, x.of(p, 5), due[p]);
        }
        x.set(4, 0, 69);
        CHECK.due("WHEN, SUM 2", x.of(4, 5), 31);
    }

    private static void set() {
        ThawGives x = new ThawGives();
        x.thing(0, 0, 35, 40);
        CHECK.due("set WORTH", x.set(0, 0, 99), 35);
        CHECK.due("set DEPTH", x.set(0, 1, 0), 40);
        CHECK.due("set WORTH again", x.set(0, 0, 0), 99);
        CHECK.due("set DEPTH again", x.set(0, 1, 99), 0);
        CHECK.due("set what 2", x.set(0, 2, 5), -1);
        CHECK.due("set what -1", x.set(0, -1, 5), -1);
        CHECK.due("set thing 1", x.set(1, 0, 5), -1);
        CHECK.due("set thing -1", x.set(-1, 0, 5), -1);
        CHECK.due("NONE ahead of BAD", x.set(0, 2, 100), -1);
        CHECK.due("set to 100", x.set(0, 0, 100), -2);
        CHECK.due("set to -1", x.set(0, 1, -1), -2);
        CHECK.due("WORTH stays", x.of(0, 2), 0);
        CHECK.due("DEPTH stays", x.of(0, 3), 99);
    }

    private static void meltsLater() {
        ThawGives x = new ThawGives();
        x.thing(3, 5, 0, 39);
        x.thing(4, 0, 0, 39);
        x.thing(6, 3, 20, 39);
        x.row(2, 0, 9);
        x.row(2, 1, 1);
        x.row(2, 3, 7);
        int[][] due = {
            {0, 0, 0}, {0, 4, 0}, {0, 5, 8}, {0, 60, 8},
            {1, 0, 20}, {1, 1, 10}, {1, 4, 20}, {1, 60, 20}, {1, 59, 10},
            {2, 0, 9}, {2, 1, 1}, {2, 2, 0}, {2, 3, 13}, {2, 4, 15}, {2, 6, 6},
        };
        for (int[] row : due) {
            CHECK.due("melts(" + row[0] + ", " + row[1] + ")", x.melts(row[0], row[1]), row[2]);
        }
        CHECK.due("melts(3, 0)", x.melts(3, 0), -10001);
        CHECK.due("melts(-1, 61)", x.melts(-1, 61), -10001);
        CHECK.due("melts(0, 61)", x.melts(0, 61), -10002);
        CHECK.due("melts(0, -1)", x.melts(0, -1), -10002);
        x.pass(3);
        CHECK.due("from WEEK 3 on", x.melts(1, 1), 20);
        CHECK.due("from WEEK 3 on", x.melts(1, 4), 10);
        CHECK.due("ROW from WEEK 3 on", x.melts(2, 0), 13);
        // DEPTH is as now, however much of it is gone by then
        ThawGives y = new ThawGives();
        y.thing(0, 0, 0, 39);
        Check.col(y, "warm 5 d=3;warm 1 m=2");
        CHECK.due("DEPTH as now", y.melts(0, 60), 13);
        CHECK.due("the WEEK then", y.melts(0, 52), 14);
    }

    private static void row() {
        ThawGives x = new ThawGives();
        x.thing(6, 0, 0, 50);
        x.thing(3, 0, 0, 50);
        CHECK.due("row at first", x.row(0, 0, 9), 0);
        CHECK.due("row then", x.row(0, 0, 4), 9);
        CHECK.due("another part", x.row(0, 3, 2), 0);
        CHECK.due("another KIND", x.row(1, 0, 1), -3);
        CHECK.due("BAD ahead of STATE", x.row(1, 0, 10), -2);
        CHECK.due("NONE ahead of BAD", x.row(1, 4, 10), -1);
        CHECK.due("part 4", x.row(0, 4, 1), -1);
        CHECK.due("part -1", x.row(0, -1, 1), -1);
        CHECK.due("thing 2", x.row(2, 0, 1), -1);
        CHECK.due("thing -1", x.row(-1, 0, 1), -1);
        CHECK.due("n 10", x.row(0, 0, 10), -2);
        CHECK.due("n -1", x.row(0, 0, -1), -2);
        CHECK.due("stays", x.row(0, 0, 4), 4);
        CHECK.due("counts in WEEK 0", x.of(0, 4), 12);
        CHECK.due("counts in WEEK 3", x.melts(0, 3), 10);
        CHECK.due("not in WEEK 1", x.melts(0, 1), 8);
    }
}
