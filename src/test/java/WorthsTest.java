/** Promises 12 to 17: by, need, see, can, odds, mean. */
public final class WorthsTest {
    private static final Check CHECK = new Check();

    public static void main(String[] args) {
        by();
        less();
        kept();
        wrongCalls();
        see();
        canOfWorthAndDepth();
        canOfV();
        seenIsFromNow();
        odds();
        mean();
        CHECK.end();
    }

    private static ThawGives withOne(int kind, int v, int worth, int depth, String text) {
        ThawGives x = new ThawGives();
        x.thing(kind, v, worth, depth);
        if (!text.isEmpty()) {
            CHECK.due(text, Check.col(x, text), 0);
        }
        return x;
    }

    private static void by() {
        ThawGives x = withOne(0, 0, 77, 40, "");
        byOf(x, 5, 10, 9);
        byOf(x, 8, 40, 39);
        byOf(x, 30, 70, 69);
        byOf(x, 4, 0, -5);
        byOf(x, 0, 0, -5);
        x.set(0, 1, 0);
        byOf(x, 0, 100, 99);
        byOf(x, 30, 100, 99);
        // what is dearer may be out, too
        byOf(withOne(0, 0, 3, 40, "warm 50 w=7"), 1, 10, 79);
        byOf(withOne(0, 0, 3, 40, "warm 50 w=7;warm 35 w=0"), 1, 20, 79);
        byOf(withOne(5, 6, 99, 20, ""), 2, 10, 9);
        byOf(withOne(6, 2, 99, 20, ""), 5, 20, 19);
        ThawGives y = withOne(4, 0, 0, 60, "");
        byOf(y, 5, 20, 19);
        y.pass(1);
        y.set(0, 1, 60);
        byOf(y, 5, 10, 9);
        CHECK.due("WORTH stays", x.of(0, 2), 77);
        CHECK.due("DEPTH stays", x.of(0, 3), 0);
    }

    private static void byOf(ThawGives x, int n, int many, int greatest) {
        CHECK.due("by(0, " + n + ", 0)", x.by(0, n, 0), many);
        CHECK.due("by(0, " + n + ", 1)", x.by(0, n, 1), greatest);
    }

    private static void less() {
        ThawGives x = withOne(0, 0, 85, 40, "");
        CHECK.due("down to 39", x.need(0, 8, 0), 46);
        CHECK.due("down to 9", x.need(0, 5, 0), 76);
        CHECK.due("none", x.need(0, 4, 0), -5);
        x.set(0, 0, 39);
        CHECK.due("none needed", x.need(0, 8, 0), 0);
        x.set(0, 0, 99);
        CHECK.due("as much as there can be", withOne(0, 0, 99, 8, "").need(0, 1, 0), 90);
        CHECK.due("all of it", withOne(0, 0, 9, 8, "").need(0, 1, 0), 0);
        CHECK.due("to what is warmer", withOne(0, 0, 85, 40, "warm 50 w=7").need(0, 1, 0), 6);
        CHECK.due("never to more", withOne(0, 0, 50, 40, "warm 50 w=7").need(0, 1, 0), -5);
        CHECK.due("of what is OUT", withOne(0, 0, 50, 0, "").need(0, 0, 0), 0);
    }

    private static void kept() {
        ThawGives x = withOne(0, 0, 0, 40, "");
        CHECK.due("one more", x.need(0, 5, 1), 1);
        CHECK.due("it is not OUT", x.need(0, 4, 1), 0);
        CHECK.due("49 in all", x.need(0, 6, 1), 9);
        CHECK.due("97 in all", x.need(0, 12, 1), 57);
        CHECK.due("none", x.need(0, 13, 1), -5);
        x.set(0, 1, 0);
        CHECK.due("OUT now", x.need(0, 0, 1), 1);
        CHECK.due("OUT now, behind 3", x.need(0, 3, 1), 25);
        CHECK.due("99 in all", withOne(0, 0, 10, 0, "").need(0, 14, 1), 99);
        // more snow may be warmer: 17 to 19 is kept, 20 and more is not
        CHECK.due("non-monotone", withOne(0, 0, 0, 10, "warm 90 d>1").need(0, 2, 1), 7);
        CHECK.due("by snow", withOne(0, 0, 0, 8, "snow 99").need(0, 13, 1), 1);
    }

    private static void wrongCalls() {
        ThawGives x = withOne(0, 0, 0, 40, "");
        int[][] none = {{1, 0, 0}, {-1, 0, 0}, {0, 0, 2}, {0, 0, -1}, {0, 31, 2}, {1, 31, 0}};
        for (int[] row : none) {
            CHECK.due("by NONE", x.by(row[0], row[1], row[2]), -1);
            CHECK.due("need NONE", x.need(row[0], row[1], row[2]), -1);
            CHECK.due("odds NO", x.odds(row[0], row[1], row[2]), ThawGives.NO);
        }
        for (int what = 0; what <= 1; what++) {
            CHECK.due("by 31", x.by(0, 31, what), -2);
            CHECK.due("by -1", x.by(0, -1, what), -2);
            CHECK.due("need 31", x.need(0, 31, what), -2);
            CHECK.due("need -1", x.need(0, -1, what), -2);
            CHECK.due("odds 31", x.odds(0, 31, what), ThawGives.NO);
            CHECK.due("odds -1", x.odds(0, -1, what), ThawGives.NO);
        }
    }

    private static void see() {
        ThawGives x = withOne(0, 0, 0, 40, "");
        CHECK.due("thing 1", x.see(1, 0, true), -1);
        CHECK.due("thing -2", x.see(-2, 0, true), -1);
        CHECK.due("NONE ahead of BAD", x.see(1, 21, true), -1);
        CHECK.due("n 21", x.see(0, 21, true), -2);
        CHECK.due("n -1", x.see(0, -1, true), -2);
        CHECK.due("none came", x.count(2), 0);
        for (int i = 1; i <= 5; i++) {
            CHECK.due("see " + i, x.see(0, 20, true), i);
        }
        CHECK.due("FULL", x.see(0, 0, true), -4);
        CHECK.due("BAD ahead of FULL", x.see(0, 21, true), -2);
        CHECK.due("NONE ahead of FULL", x.see(1, 0, true), -1);
        CHECK.due("five", x.count(2), 5);
        CHECK.due("none then", x.see(-1, 99, false), 0);
        CHECK.due("none", x.count(2), 0);
        CHECK.due("one", x.see(0, 0, false), 1);
    }

    private static void canOfWorthAndDepth() {
        ThawGives x = withOne(0, 0, 0, 40, "");
        x.thing(0, 0, 0, 10);
        canOf(x, 0, 0, 100, 0);
        canOf(x, 0, 1, 100, 0);
        canOf(x, 0, 2, 10, 0);
        x.see(0, 5, true);
        canOf(x, 0, 0, 10, 0);
        canOf(x, 0, 1, 41, 0);
        x.see(0, 4, false);
        canOf(x, 0, 0, 10, 0);
        canOf(x, 0, 1, 8, 33);
        canOf(x, 1, 1, 100, 0);
        x.see(1, 0, false);
        canOf(x, 1, 1, 99, 1);
        canOf(x, 0, 1, 8, 33);
        x.see(0, 5, false);
        canOf(x, 0, 0, 0, -5);
        canOf(x, 0, 1, 0, -5);
        canOf(x, 0, 2, 0, -5);
        x.see(-1, 0, false);
        x.see(0, 8, false);
        canOf(x, 0, 0, 60, 40);
        x.see(0, 20, true);
        canOf(x, 0, 0, 30, 40);
        int[][] none = {{2, 0, 0}, {-1, 0, 0}, {0, 3, 0}, {0, -1, 0}, {0, 0, 2}, {0, 0, -1}};
        for (int[] row : none) {
            CHECK.due("can NONE", x.can(row[0], row[1], row[2]), -1);
        }
        CHECK.due("nothing has changed", x.of(0, 2), 0);
        CHECK.due("nothing has changed", x.of(0, 3), 40);
    }

    private static void canOf(ThawGives x, int thing, int which, int many, int least) {
        CHECK.due("can(" + thing + ", " + which + ", 0)", x.can(thing, which, 0), many);
        CHECK.due("can(" + thing + ", " + which + ", 1)", x.can(thing, which, 1), least);
    }

    private static void canOfV() {
        ThawGives letter = withOne(5, 1, 0, 40, "");
        letter.see(0, 5, true);
        canOf(letter, 0, 2, 6, 4);
        ThawGives living = withOne(3, 9, 0, 16, "");
        living.see(0, 4, true);
        canOf(living, 0, 2, 3, 0);
        living.see(0, 2, false);
        canOf(living, 0, 2, 2, 1);
        ThawGives tested = withOne(0, 9, 0, 50, "warm 50 v=9;warm 60 v=6");
        tested.see(0, 1, true);
        canOf(tested, 0, 2, 2, 6);
        CHECK.due("v stays", tested.of(0, 1), 9);
    }

    /** A row of SEEN is of n WEEKS from when it is asked. */
    private static void seenIsFromNow() {
        ThawGives x = withOne(0, 0, 0, 40, "");
        x.see(0, 5, true);
        canOf(x, 0, 0, 10, 0);
        x.pass(1);
        canOf(x, 0, 0, 20, 0);
        canOf(x, 0, 1, 41, 0);
    }

    private static void odds() {
        ThawGives x = withOne(0, 0, 66, 40, "");
        oddsOf(x, 8, 2, 5);
        oddsOf(x, 5, 1, 10);
        oddsOf(x, 10, 1, 2);
        oddsOf(x, 30, 7, 10);
        oddsOf(x, 1, 0, 1);
        x.set(0, 1, 0);
        oddsOf(x, 0, 1, 1);
        CHECK.due("part 2", x.odds(0, 1, 2), ThawGives.NO);
        CHECK.due("part -1", x.odds(0, 1, -1), ThawGives.NO);
        CHECK.due("WORTH stays", x.of(0, 2), 66);
    }

    private static void oddsOf(ThawGives x, int n, int above, int below) {
        CHECK.due("odds(0, " + n + ", 0)", x.odds(0, n, 0), above);
        CHECK.due("odds(0, " + n + ", 1)", x.odds(0, n, 1), below);
    }

    private static void mean() {
        ThawGives x = new ThawGives();
        CHECK.due("no THINGS", x.mean(0, 0), ThawGives.NO);
        CHECK.due("no THINGS", x.mean(0, 1), ThawGives.NO);
        x.thing(0, 0, 0, 40);
        x.thing(0, 0, 0, 9);
        meanOf(x, 0, 49, 2);
        meanOf(x, 1, 33, 2);
        meanOf(x, 2, 12, 1);
        meanOf(x, 5, 0, 1);
        meanOf(x, 60, 0, 1);
        for (int i = 0; i < 4; i++) {
            x.thing(0, 0, 0, 0);
        }
        meanOf(x, 0, 49, 6);
        meanOf(x, 1, 11, 2);
        x.set(2, 1, 99);
        x.set(3, 1, 96);
        meanOf(x, 0, 122, 3);
        CHECK.due("n 61", x.mean(61, 0), ThawGives.NO);
        CHECK.due("n -1", x.mean(-1, 0), ThawGives.NO);
        CHECK.due("part 2", x.mean(0, 2), ThawGives.NO);
        CHECK.due("part -1", x.mean(0, -1), ThawGives.NO);
    }

    private static void meanOf(ThawGives x, int n, int above, int below) {
        CHECK.due("mean(" + n + ", 0)", x.mean(n, 0), above);
        CHECK.due("mean(" + n + ", 1)", x.mean(n, 1), below);
    }
}
