/** Promises 29 to 32: tape, item, read, shift. */
public final class TapesTest {
    private static final Check CHECK = new Check();
    private static final int MAX = Integer.MAX_VALUE;
    private static final int MIN = Integer.MIN_VALUE;

    public static void main(String[] args) {
        tape();
        items();
        wrongItems();
        shift();
        shiftWithin();
        wrongShifts();
        CHECK.end();
    }

    private static void tape() {
        ThawGives x = new ThawGives();
        CHECK.due("tape -1", x.tape(-1, 0, 5), -1);
        CHECK.due("tape 6", x.tape(6, 0, 5), -1);
        CHECK.due("NONE ahead of BAD", x.tape(6, 5, 61), -1);
        CHECK.due("sort 5", x.tape(0, 5, 5), -2);
        CHECK.due("sort -2", x.tape(0, -2, 5), -2);
        CHECK.due("n 61", x.tape(0, 0, 61), -2);
        CHECK.due("BAD ahead of SIZE", x.tape(0, 5, -1), -2);
        CHECK.due("n -1", x.tape(0, 0, -1), -14);
        CHECK.due("n min", x.tape(0, 4, MIN), -14);
        CHECK.due("nothing is there", x.item(0, 0, 1), -11);
        for (int sort = 0; sort <= 4; sort++) {
            CHECK.due("sort " + sort, x.tape(sort, sort, 60), 1);
            CHECK.due("the last of 60", x.read(sort, 59), 0);
            CHECK.due("no place 60", x.read(sort, 60), ThawGives.NO);
            x.item(sort, 59, 1);
            x.item(sort, 0, 1);
            CHECK.due("set", x.read(sort, 59), 1);
            CHECK.due("made again", x.tape(sort, sort, 60), 1);
            CHECK.due("all 0", x.read(sort, 59), 0);
            CHECK.due("all 0", x.read(sort, 0), 0);
        }
        CHECK.due("a row of none", x.tape(0, 0, 0), 1);
        CHECK.due("no place 0", x.item(0, 0, 1), -13);
        CHECK.due("NOTHING", x.tape(0, -1, MIN), 1);
        CHECK.due("nothing is there", x.item(0, 0, 1), -11);
        CHECK.due("NOTHING, n 61", x.tape(1, -1, 61), 1);
        CHECK.due("nothing to read", x.read(1, 0), ThawGives.NO);
        x.tape(2, 2, 3);
        x.item(2, 1, 9);
        CHECK.due("refused", x.tape(2, 0, 61), -2);
        CHECK.due("refused", x.tape(2, 0, -1), -14);
        CHECK.due("stays", x.read(2, 1), 9);
    }

    private static void items() {
        long[][] due = {
            {0, 127, 127}, {0, 128, -128}, {0, 200, -56}, {0, -129, 127}, {0, 256, 0}, {0, Long.MAX_VALUE, -1},
            {1, 32767, 32767}, {1, 32768, -32768}, {1, 70000, 4464}, {1, -32769, 32767},
            {2, MAX, MAX}, {2, MAX + 1L, MIN}, {2, 1L << 32, 0}, {2, 9999999999L, 1410065407}, {2, -5, -5},
            {3, Long.MIN_VALUE + 1, Long.MIN_VALUE + 1}, {3, 9999999999L, 9999999999L}, {3, -1, -1},
            {4, 0, 0}, {4, 1, 1}, {4, 2, 1}, {4, -1, 1}, {4, 1L << 40, 1}, {4, 256, 1},
        };
        ThawGives x = new ThawGives();
        for (long[] row : due) {
            x.tape(5, (int) row[0], 3);
            CHECK.due("item", x.item(5, 1, row[1]), 1);
            CHECK.due("sort " + row[0] + ", " + row[1], x.read(5, 1), row[2]);
            CHECK.due("beside it", x.read(5, 0), 0);
            CHECK.due("beside it", x.read(5, 2), 0);
        }
        x.item(5, 1, 7);
        CHECK.due("0 again", x.item(5, 1, 0) == 1 ? x.read(5, 1) : 9, 0);
    }

    private static void wrongItems() {
        ThawGives x = new ThawGives();
        x.tape(0, 2, 3);
        CHECK.due("tape 6", x.item(6, 0, 1), -1);
        CHECK.due("tape -1", x.item(-1, -1, 1), -1);
        CHECK.due("NOTHING ahead of PLACE", x.item(1, -1, 1), -11);
        CHECK.due("place -1", x.item(0, -1, 1), -13);
        CHECK.due("place 3", x.item(0, 3, 1), -13);
        CHECK.due("place max", x.item(0, MAX, 1), -13);
        CHECK.due("place min", x.item(0, MIN, 1), -13);
        CHECK.due("read tape 6", x.read(6, 0), ThawGives.NO);
        CHECK.due("read tape -1", x.read(-1, 0), ThawGives.NO);
        CHECK.due("read nothing", x.read(1, 0), ThawGives.NO);
        CHECK.due("read -1", x.read(0, -1), ThawGives.NO);
        CHECK.due("read 3", x.read(0, 3), ThawGives.NO);
        CHECK.due("read 2", x.read(0, 2), 0);
        x.tape(0, 2, 2);
        CHECK.due("a shorter row", x.read(0, 2), ThawGives.NO);
    }

    private static ThawGives withRows() {
        ThawGives x = new ThawGives();
        x.tape(0, 1, 5);
        x.tape(1, 1, 4);
        for (int i = 0; i < 5; i++) {
            x.item(0, i, 10 + i);
            x.item(1, i, 20 + i);
        }
        return x;
    }

    private static void row(String name, ThawGives x, int tape, int... due) {
        for (int i = 0; i < due.length; i++) {
            CHECK.due(name + ": item " + i, x.read(tape, i), due[i]);
        }
    }

    private static void shift() {
        ThawGives x = withRows();
        CHECK.due("shift", x.shift(0, 1, 1, 0, 3), 3);
        row("to another", x, 1, 11, 12, 13, 23);
        row("stays", x, 0, 10, 11, 12, 13, 14);
        CHECK.due("back", x.shift(1, 3, 0, 4, 1), 1);
        row("back", x, 0, 10, 11, 12, 13, 23);
        CHECK.due("all", x.shift(1, 0, 0, 1, 4), 4);
        row("all", x, 0, 10, 11, 12, 13, 23);
        CHECK.due("none", x.shift(1, 0, 0, 0, 0), 0);
        CHECK.due("none at the ends", x.shift(1, 4, 0, 5, 0), 0);
        row("none", x, 0, 10, 11, 12, 13, 23);
    }

    private static void shiftWithin() {
        ThawGives x = withRows();
        CHECK.due("upwards", x.shift(0, 0, 0, 1, 4), 4);
        row("upwards", x, 0, 10, 10, 11, 12, 13);
        x = withRows();
        CHECK.due("downwards", x.shift(0, 1, 0, 0, 4), 4);
        row("downwards", x, 0, 11, 12, 13, 14, 14);
        CHECK.due("in place", x.shift(0, 0, 0, 0, 5), 5);
        row("in place", x, 0, 11, 12, 13, 14, 14);
    }

    private static void wrongShifts() {
        ThawGives x = withRows();
        x.tape(2, 2, 5);
        CHECK.due("tape -1", x.shift(-1, 0, 0, 0, 1), -1);
        CHECK.due("tape 6", x.shift(6, 0, 0, 0, 1), -1);
        CHECK.due("other -1", x.shift(0, 0, -1, 0, 1), -1);
        CHECK.due("other 6", x.shift(0, 0, 6, 0, 1), -1);
        CHECK.due("NONE ahead of NOTHING", x.shift(5, 0, 6, 0, 1), -1);
        CHECK.due("from nothing", x.shift(5, 0, 0, 0, 1), -11);
        CHECK.due("to nothing", x.shift(0, 0, 5, 0, 1), -11);
        CHECK.due("NOTHING ahead of PLACE", x.shift(0, -1, 5, 0, 1), -11);
        CHECK.due("unlike sorts", x.shift(0, 0, 2, 0, 1), -12);
        CHECK.due("CAST ahead of PLACE", x.shift(0, -1, 2, 0, 1), -12);
        int[][] places = {
            {-1, 0, 1}, {0, -1, 1}, {0, 0, -1}, {0, 0, 5}, {2, 0, 4}, {0, 1, 4}, {5, 0, 1}, {0, 4, 1}, {6, 0, 0},
            {0, 5, 0}, {MAX, 0, 1}, {0, MAX, 1}, {MAX, MAX, MAX}, {1, 0, MAX}, {0, 1, MAX}, {0, 0, MIN},
            {MIN, 0, MIN}, {MAX, 0, 0},
        };
        for (int[] row : places) {
            String name = "shift " + row[0] + " " + row[1] + " " + row[2];
            CHECK.due(name, x.shift(0, row[0], 1, row[1], row[2]), -13);
        }
        row("stays", x, 0, 10, 11, 12, 13, 14);
        row("stays", x, 1, 20, 21, 22, 23);
    }
}
