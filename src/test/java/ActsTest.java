/** Promises 25 to 28: act, trace, taken, count. */
public final class ActsTest {
    private static final Check CHECK = new Check();

    public static void main(String[] args) {
        bodies();
        wrapping();
        wrongActs();
        taken();
        count();
        CHECK.end();
    }

    private static void bodies() {
        act(0, 0, 8, 10);
        act(0, 1, 1, 11, 10);
        act(0, 2, 2, 12, 11, 10);
        act(1, 0, 8, 10);
        act(1, 1, 7, 20, 11, 10);
        act(1, 2, 14, 12, 20, 11, 10);
        act(2, 0, 20, 30, 10);
        act(2, 1, 13, 11, 30, 10);
        act(2, 2, 26, 12, 11, 30, 10);
        act(3, 0, 8, 10);
        act(3, 1, 1, 11, 10);
        act(3, 2, -2, 40, 12, 11, 10, 11, 10);
        act(4, 0, -8, 50, 10);
        act(4, 1, -10, 51, 20, 11, 50, 10);
        act(4, 2, -20, 12, 51, 20, 11, 50, 10);
        act(5, 0, 20, 30, 10);
        act(5, 1, 13, 11, 30, 10);
        act(5, 2, 14, 60, 12, 11, 30, 10);
        act(6, 0, 15, 71, 10);
        act(6, 1, 12, 70, 11, 71, 10, 10);
        act(6, 2, 25, 40, 12, 70, 11, 71, 10, 10, 70, 11, 71, 10, 10);
    }

    /** THING 2 of a KIND, v 7, with x 6. */
    private static void act(int kind, int act, int due, int... bodies) {
        ThawGives x = new ThawGives();
        x.thing(0, 0, 0, 0);
        x.thing(0, 0, 0, 0);
        x.thing(kind, 7, 55, 66);
        String name = "KIND " + kind + ", act " + act;
        CHECK.due(name, x.act(2, act, 6), due);
        CHECK.due(name + ": how many", x.count(6), bodies.length);
        for (int i = 0; i < bodies.length; i++) {
            CHECK.due(name + ": body " + i, x.trace(i), bodies[i]);
        }
        CHECK.due(name + ": no more", x.trace(bodies.length), -1);
    }

    private static void wrapping() {
        ThawGives x = new ThawGives();
        x.thing(0, 9, 0, 0);
        x.thing(2, 9, 0, 0);
        x.thing(0, 9, 0, 0);
        x.thing(4, 9, 0, 0);
        int max = Integer.MAX_VALUE;
        int min = Integer.MIN_VALUE;
        CHECK.due("x + i", x.act(2, 0, max), min + 1);
        CHECK.due("x * 3 + i", x.act(1, 0, max), max - 1);
        CHECK.due("less v", x.act(0, 1, min + 8), max);
        CHECK.due("times 2", x.act(0, 2, max), -20);
        CHECK.due("turned", x.act(3, 0, min - 3), min);
    }

    private static void wrongActs() {
        ThawGives x = new ThawGives();
        x.thing(0, 0, 0, 0);
        int[][] wrong = {{1, 0}, {-1, 0}, {0, 3}, {0, -1}, {6, 7}, {Integer.MIN_VALUE, Integer.MAX_VALUE}};
        for (int[] row : wrong) {
            x.act(0, 2, 3);
            CHECK.due("a TRACE", x.trace(0), 12);
            CHECK.due("no such", x.act(row[0], row[1], 3), 0);
            CHECK.due("no TRACE", x.trace(0), -1);
            CHECK.due("no bodies", x.count(6), 0);
        }
        x.act(0, 1, 3);
        CHECK.due("the latest alone", x.count(6), 2);
        CHECK.due("the latest alone", x.trace(0), 11);
        CHECK.due("trace(2)", x.trace(2), -1);
        CHECK.due("trace(-1)", x.trace(-1), -1);
        CHECK.due("trace(20)", x.trace(20), -1);
        CHECK.due("trace(max)", x.trace(Integer.MAX_VALUE), -1);
        CHECK.due("trace(min)", x.trace(Integer.MIN_VALUE), -1);
    }

    private static void taken() {
        int[][] under = {{0}, {0, 1}, {0, 2}, {0, 3}, {0, 1, 4}, {0, 2, 5}, {0, 3, 6}};
        for (int kind = 0; kind <= 6; kind++) {
            ThawGives x = new ThawGives();
            x.thing(kind, 0, 0, 0);
            for (int k = 0; k <= 6; k++) {
                boolean isOne = false;
                for (int one : under[kind]) {
                    isOne = isOne || one == k;
                }
                CHECK.due("KIND " + kind + " taken for " + k, x.taken(0, k), isOne ? kind : -12);
            }
            CHECK.due("taken(0, 7)", x.taken(0, 7), -2);
            CHECK.due("taken(0, -1)", x.taken(0, -1), -2);
            CHECK.due("taken(1, 0)", x.taken(1, 0), -11);
            CHECK.due("taken(-1, 0)", x.taken(-1, 0), -11);
            CHECK.due("BAD ahead of NOTHING", x.taken(1, 7), -2);
        }
    }

    private static void count() {
        ThawGives x = new ThawGives();
        x.thing(6, 0, 0, 0);
        Check.col(x, "snow 1");
        Check.col(x, "snow 1");
        for (int i = 0; i < 3; i++) {
            x.see(0, 0, true);
        }
        for (int i = 0; i < 4; i++) {
            x.plan(0, 0);
        }
        for (int i = 0; i < 5; i++) {
            x.book(0, 0);
        }
        Check.feed(x, "sixsix");
        x.act(0, 2, 1);
        int[] due = {1, 2, 3, 4, 5, 6, 12};
        for (int what = 0; what < due.length; what++) {
            CHECK.due("count(" + what + ")", x.count(what), due[what]);
        }
        CHECK.due("count(7)", x.count(7), -2);
        CHECK.due("count(-1)", x.count(-1), -2);
        CHECK.due("count(min)", x.count(Integer.MIN_VALUE), -2);
    }
}
