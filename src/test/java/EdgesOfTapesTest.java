/**
 * The edges that the document's Terms name under 3, and those that only the promises name: TAPES, judging, refusals,
 * what is kind of what, how many there are; sentence by sentence.
 */
public final class EdgesOfTapesTest {
    private static final Check CHECK = new Check();
    private static final int MIN = Integer.MIN_VALUE, MAX = Integer.MAX_VALUE;
    private static final int BYTES = 0, SHORTS = 1, INTS = 2, LONGS = 3, BOOLEANS = 4;

    public static void main(String[] args) {
        numbersOfTapes();
        sizes();
        allZero();
        nothing();
        lowestBits();
        booleans();
        places();
        judgedSo();
        judgedByTheEnd();
        judgedWithoutThings();
        judgedBySort();
        shiftOfEachSort();
        shiftByEachPlace();
        shiftOfNone();
        shiftWithin();
        shiftFarOff();
        taken();
        counts();
        sets();
        passing();
        newObject();
        calls();
        CHECK.end();
    }

    private static void numbersOfTapes() {
        CHECK.by("TAPES 0 .. 5 hold nothing (at first)");
        ThawGives x = new ThawGives();
        for (int tape = 0; tape <= 5; tape++) {
            CHECK.due("item(" + tape + ", 0, 1)", x.item(tape, 0, 1), -11);
            CHECK.due("read(" + tape + ", 0)", x.read(tape, 0), ThawGives.NO);
            CHECK.due("shift(" + tape + ", 0, 0, 0, 0)", x.shift(tape, 0, 0, 0, 0), -11);
        }
        for (int tape = 0; tape <= 5; tape++) {
            CHECK.due("tape(" + tape + ", 0, 1)", x.tape(tape, BYTES, 1), 1);
            CHECK.due("item(" + tape + ", 0, 7)", x.item(tape, 0, tape + 7), 1);
        }
        for (int tape = 0; tape <= 5; tape++) {
            CHECK.due("each its own", x.read(tape, 0), tape + 7);
        }
        for (int tape : new int[] {-1, 6, MIN, MAX}) {
            CHECK.due("tape(" + tape + ", ..)", x.tape(tape, BYTES, 1), -1);
            CHECK.due("item(" + tape + ", ..)", x.item(tape, 0, 1), -1);
            CHECK.due("read(" + tape + ", ..)", x.read(tape, 0), ThawGives.NO);
            CHECK.due("judge(" + tape + ", ..)", x.judge(tape, 0), -1);
            CHECK.due("shift(" + tape + ", ..)", x.shift(tape, 0, 0, 0, 1), -1);
            CHECK.due("shift(.., " + tape + ", ..)", x.shift(0, 0, tape, 0, 1), -1);
        }
    }

    private static void sizes() {
        CHECK.by("a row of n (0 .. 60) of a sort: 1. BAD: sort, n above 60; SIZE: a size below 0");
        for (int sort = 0; sort <= 4; sort++) {
            for (int n : new int[] {0, 1, 59, 60}) {
                ThawGives x = new ThawGives();
                CHECK.due("tape(0, " + sort + ", " + n + ")", x.tape(0, sort, n), 1);
                CHECK.due("the last of " + n, x.read(0, n - 1), n == 0 ? ThawGives.NO : 0);
                CHECK.due("item " + n + " of " + n, x.item(0, n, 1), -13);
                CHECK.due("no item behind the last of " + n, x.read(0, n), ThawGives.NO);
            }
            ThawGives x = new ThawGives();
            CHECK.due("n 61", x.tape(0, sort, 61), -2);
            CHECK.due("n MAX", x.tape(0, sort, MAX), -2);
            CHECK.due("n -1", x.tape(0, sort, -1), -14);
            CHECK.due("n MIN", x.tape(0, sort, MIN), -14);
            CHECK.due("it holds nothing", x.item(0, 0, 1), -11);
        }
        for (int sort : new int[] {-2, 5, MIN, MAX}) {
            for (int n : new int[] {0, 60, 61, -1, MIN, MAX}) {
                CHECK.due("tape(0, " + sort + ", " + n + ")", new ThawGives().tape(0, sort, n), -2);
            }
        }
    }

    private static void allZero() {
        CHECK.by("a row of a sort, all 0");
        for (int sort = 0; sort <= 4; sort++) {
            ThawGives x = new ThawGives();
            x.tape(3, sort, 60);
            for (int i = 0; i < 60; i++) {
                x.item(3, i, 1);
            }
            CHECK.due("shorter", x.tape(3, sort, 30), 1);
            CHECK.due("the last", x.read(3, 29), 0);
            CHECK.due("behind it", x.read(3, 30), ThawGives.NO);
            CHECK.due("longer again", x.tape(3, (sort + 1) % 5, 60), 1);
            for (int i = 0; i < 60; i++) {
                CHECK.due("item " + i, x.read(3, i), 0);
            }
        }
    }

    private static void nothing() {
        CHECK.by("or holds nothing (sort -1: n does not matter): 1");
        for (int n : new int[] {0, 60, 61, -1, MIN, MAX}) {
            ThawGives x = new ThawGives();
            CHECK.due("tape(2, -1, " + n + ") at first", x.tape(2, -1, n), 1);
            x.tape(2, INTS, 3);
            CHECK.due("tape(2, -1, " + n + ")", x.tape(2, -1, n), 1);
            CHECK.due("item", x.item(2, 0, 1), -11);
            CHECK.due("item, no such place", x.item(2, -1, 1), -11);
            CHECK.due("read", x.read(2, 0), ThawGives.NO);
            CHECK.due("tape(6, -1, ..)", x.tape(6, -1, n), -1);
            CHECK.due("tape(-1, -1, ..)", x.tape(-1, -1, n), -1);
        }
    }

    private static void lowestBits() {
        CHECK.by("Item i becomes v (its lowest bits, as many as an item has)");
        int[] bits = {8, 16, 32, 64};
        for (int sort = 0; sort <= 3; sort++) {
            long greatest = (1L << bits[sort] - 1) - 1;
            long least = -greatest - 1;
            ThawGives x = new ThawGives();
            x.tape(0, sort, 3);
            item(x, sort, 0, 0);
            item(x, sort, 1, 1);
            item(x, sort, -1, -1);
            item(x, sort, greatest, greatest);
            // a long's least is NO as well
            item(x, sort, least, least);
            item(x, sort, greatest + 1, least);
            item(x, sort, least - 1, greatest);
            if (sort < LONGS) {
                item(x, sort, 1L << bits[sort], 0);
                item(x, sort, (1L << bits[sort]) + 5, 5);
                item(x, sort, (1L << bits[sort]) - 1, -1);
                item(x, sort, Long.MAX_VALUE, -1);
                item(x, sort, Long.MIN_VALUE, 0);
            }
        }
    }

    private static void item(ThawGives x, int sort, long v, long due) {
        CHECK.due("item(0, 1, " + v + ") of sort " + sort, x.item(0, 1, v), 1);
        CHECK.due(v + " of sort " + sort, x.read(0, 1), due);
        CHECK.due("ahead of it", x.read(0, 0), 0);
        CHECK.due("behind it", x.read(0, 2), 0);
    }

    private static void booleans() {
        CHECK.by("booleans (items 0, 1): whether v is not 0");
        ThawGives x = new ThawGives();
        x.tape(0, BOOLEANS, 3);
        for (long v : new long[] {1, 2, -1, 256, 1L << 32, 1L << 63, Long.MAX_VALUE, -2}) {
            item(x, BOOLEANS, v, 1);
            item(x, BOOLEANS, 0, 0);
        }
    }

    private static void places() {
        CHECK.by("PLACE: no such place; NO: no such place");
        ThawGives x = new ThawGives();
        x.tape(4, SHORTS, 3);
        for (int i = 0; i <= 2; i++) {
            CHECK.due("item(4, " + i + ", ..)", x.item(4, i, 5 + i), 1);
            CHECK.due("read(4, " + i + ")", x.read(4, i), 5 + i);
        }
        for (int i : new int[] {-1, 3, 59, 60, MIN, MAX}) {
            CHECK.due("item(4, " + i + ", ..)", x.item(4, i, 9), -13);
            CHECK.due("read(4, " + i + ")", x.read(4, i), ThawGives.NO);
        }
        for (int i = 0; i <= 2; i++) {
            CHECK.due("stays", x.read(4, i), 5 + i);
        }
    }

    // ---- JUDGED

    /** THINGS of DEPTH 40, 0, 99, and a row of bytes that has just this from place 2 on. */
    private static ThawGives asTold() {
        ThawGives x = new ThawGives();
        int[] depths = {40, 0, 99};
        x.tape(1, BYTES, 5);
        for (int p = 0; p < 3; p++) {
            x.thing(0, 0, 0, depths[p]);
            x.item(1, 2 + p, depths[p]);
        }
        return x;
    }

    private static void judgedSo() {
        CHECK.by("JUDGED: the first that is otherwise (counted from 0 from that place on); -5: none");
        CHECK.due("as told", asTold().judge(1, 2), -5);
        for (int p = 0; p < 3; p++) {
            for (int by : new int[] {1, -1}) {
                ThawGives x = asTold();
                x.item(1, 2 + p, x.read(1, 2 + p) + by);
                CHECK.due("otherwise by " + by, x.judge(1, 2), p);
                x.item(1, 4, 77);
                CHECK.due("the first", x.judge(1, 2), p);
            }
        }
        CHECK.due("the first, from 0 on", asTold().judge(1, 0), 0);
        ThawGives wrapped = asTold();
        wrapped.item(1, 2, 40 + 256);
        CHECK.due("a byte of it", wrapped.judge(1, 2), -5);
        wrapped.item(1, 3, 128);
        CHECK.due("below 0", wrapped.judge(1, 2), 1);
        ThawGives later = asTold();
        later.pass(1);
        CHECK.due("now", later.judge(1, 2), 0);
        later.set(0, 1, 40);
        CHECK.due("now", later.judge(1, 2), 2);
    }

    private static void judgedByTheEnd() {
        CHECK.by("100 and how many were looked at, if the row ends ahead of that (or the place is below 0, or the TAPE holds nothing)");
        for (int n = 0; n <= 4; n++) {
            ThawGives x = asTold();
            x.tape(1, BYTES, n);
            for (int i = 0; i < n && i < 3; i++) {
                x.item(1, i, x.of(i, 3));
            }
            CHECK.due("a row of " + n, x.judge(1, 0), n >= 3 ? -5 : 100 + n);
            for (int i : new int[] {-1, -2, MIN, MIN + 1, n, n + 1, 60, MAX, MAX - 1}) {
                CHECK.due("a row of " + n + ", place " + i, x.judge(1, i), 100);
            }
        }
        ThawGives x = asTold();
        x.item(1, 4, 40);
        CHECK.due("one was looked at", x.judge(1, 4), 101);
        x.item(1, 3, 40);
        x.item(1, 4, 0);
        CHECK.due("two were", x.judge(1, 3), 102);
        x.item(1, 4, 1);
        CHECK.due("otherwise ahead of the end", x.judge(1, 3), 1);
        x.item(1, 3, 41);
        CHECK.due("otherwise ahead of all", x.judge(1, 3), 0);
        for (int i : new int[] {0, 1, -1, 60, MIN, MAX}) {
            CHECK.due("nothing, place " + i, x.judge(5, i), 100);
        }
        x.tape(1, -1, 0);
        CHECK.due("nothing any more", x.judge(1, 2), 100);
        ThawGives six = new ThawGives();
        six.tape(0, BYTES, 60);
        for (int p = 0; p < 6; p++) {
            six.thing(0, 0, 0, 0);
        }
        CHECK.due("the last six of 60", six.judge(0, 54), -5);
        CHECK.due("the last five of 60", six.judge(0, 55), 105);
        CHECK.due("the last of 60", six.judge(0, 59), 101);
        CHECK.due("behind 60", six.judge(0, 60), 100);
    }

    private static void judgedWithoutThings() {
        CHECK.by("-5: there are no THINGS (wherever the place is, also if the TAPE holds nothing)");
        ThawGives x = new ThawGives();
        x.tape(1, BYTES, 2);
        x.tape(2, BYTES, 0);
        for (int tape : new int[] {0, 1, 2}) {
            for (int i : new int[] {0, 1, 2, 3, -1, MIN, MAX}) {
                CHECK.due("judge(" + tape + ", " + i + ")", x.judge(tape, i), -5);
            }
        }
        CHECK.due("judge(6, 0)", x.judge(6, 0), -1);
        CHECK.due("judge(-1, 0)", x.judge(-1, 0), -1);
    }

    private static void judgedBySort() {
        CHECK.by("CAST: it is no row of bytes");
        ThawGives x = asTold();
        for (int sort = 1; sort <= 4; sort++) {
            for (int n : new int[] {0, 1, 5}) {
                x.tape(1, sort, n);
                for (int i : new int[] {0, -1, 5, MAX}) {
                    CHECK.due("sort " + sort + " of " + n + ", place " + i, x.judge(1, i), -12);
                }
            }
        }
    }

    // ---- shifting

    private static ThawGives withRows(int sort, int n, int otherN) {
        ThawGives x = new ThawGives();
        x.tape(0, sort, n);
        x.tape(1, sort, otherN);
        for (int i = 0; i < n; i++) {
            x.item(0, i, 10 + i);
        }
        for (int i = 0; i < otherN; i++) {
            x.item(1, i, 20 + i);
        }
        return x;
    }

    private static void shiftOfEachSort() {
        CHECK.by("NOTHING; CAST: of unlike sorts");
        for (int sort = 0; sort <= 4; sort++) {
            for (int other = 0; other <= 4; other++) {
                ThawGives x = new ThawGives();
                x.tape(0, sort, 2);
                x.tape(1, other, 2);
                x.item(0, 1, 1);
                CHECK.due("sorts " + sort + ", " + other, x.shift(0, 1, 1, 0, 1), sort == other ? 1 : -12);
                CHECK.due("item 0", x.read(1, 0), sort == other ? 1 : 0);
                CHECK.due("no such place", x.shift(0, 2, 1, 0, 1), sort == other ? -13 : -12);
                CHECK.due("none", x.shift(0, 0, 1, 0, 0), sort == other ? 0 : -12);
                x.tape(1, -1, 0);
                CHECK.due("to nothing", x.shift(0, 1, 1, 0, 1), -11);
                CHECK.due("to nothing, no such place", x.shift(0, -1, 1, -1, -1), -11);
                CHECK.due("from nothing", x.shift(1, 0, 0, 0, 1), -11);
                CHECK.due("from nothing to nothing", x.shift(1, 0, 1, 0, 0), -11);
            }
        }
    }

    private static void shiftByEachPlace() {
        CHECK.by("PLACE: n, i or j is below 0, or beyond either's end");
        for (int i = -1; i <= 4; i++) {
            for (int j = -1; j <= 5; j++) {
                for (int n = -1; n <= 5; n++) {
                    ThawGives x = withRows(SHORTS, 3, 4);
                    boolean fits = i >= 0 && j >= 0 && n >= 0 && i + n <= 3 && j + n <= 4;
                    String told = "shift(0, " + i + ", 1, " + j + ", " + n + ")";
                    CHECK.due(told, x.shift(0, i, 1, j, n), fits ? n : -13);
                    for (int k = 0; k < 4; k++) {
                        boolean isMoved = fits && k >= j && k < j + n;
                        CHECK.due(told + ": item " + k, x.read(1, k), isMoved ? 10 + i + k - j : 20 + k);
                    }
                    for (int k = 0; k < 3; k++) {
                        CHECK.due(told + ": stays", x.read(0, k), 10 + k);
                    }
                }
            }
        }
    }

    private static void shiftOfNone() {
        CHECK.by("n items: n");
        ThawGives x = withRows(LONGS, 60, 60);
        CHECK.due("all 60", x.shift(0, 0, 1, 0, 60), 60);
        CHECK.due("the last", x.read(1, 59), 69);
        CHECK.due("one more", x.shift(0, 0, 1, 0, 61), -13);
        CHECK.due("none at the end", x.shift(0, 60, 1, 60, 0), 0);
        CHECK.due("none beyond it", x.shift(0, 61, 1, 60, 0), -13);
        CHECK.due("none beyond the other's", x.shift(0, 60, 1, 61, 0), -13);
        ThawGives empty = withRows(BYTES, 0, 0);
        CHECK.due("rows of none", empty.shift(0, 0, 1, 0, 0), 0);
        CHECK.due("rows of none, one", empty.shift(0, 0, 1, 0, 1), -13);
        CHECK.due("rows of none, itself", empty.shift(0, 0, 0, 0, 0), 0);
        CHECK.due("rows of none, place 1", empty.shift(0, 1, 0, 0, 0), -13);
    }

    private static void shiftWithin() {
        CHECK.by("another one (or the same), as they all were before");
        for (int sort = 0; sort <= 3; sort++) {
            for (int i = 0; i <= 5; i++) {
                for (int j = 0; j <= 5; j++) {
                    for (int n = 0; n <= 5 - Math.max(i, j); n++) {
                        ThawGives x = withRows(sort, 5, 0);
                        String told = "shift(0, " + i + ", 0, " + j + ", " + n + ")";
                        CHECK.due(told, x.shift(0, i, 0, j, n), n);
                        for (int k = 0; k < 5; k++) {
                            boolean isMoved = k >= j && k < j + n;
                            CHECK.due(told + ": item " + k, x.read(0, k), 10 + (isMoved ? i + k - j : k));
                        }
                    }
                }
            }
        }
    }

    private static void shiftFarOff() {
        CHECK.by("PLACE: beyond either's end, far off");
        int[] far = {MIN, MIN + 1, -1, 0, 1, MAX - 1, MAX};
        for (int i : far) {
            for (int j : far) {
                for (int n : far) {
                    ThawGives x = withRows(INTS, 1, 1);
                    boolean fits = i >= 0 && j >= 0 && n >= 0 && (long) i + n <= 1 && (long) j + n <= 1;
                    CHECK.due("shift(0, " + i + ", 1, " + j + ", " + n + ")", x.shift(0, i, 1, j, n), fits ? n : -13);
                    CHECK.due("of itself", x.shift(0, i, 0, j, n), fits ? n : -13);
                }
            }
        }
    }

    // ---- promises beside the Terms

    private static void taken() {
        CHECK.by("taken: KIND k (0 .. 6), or one under that: its KIND. BAD: k; NOTHING: no such THING; CAST");
        String[] under = {"0", "01", "02", "03", "014", "025", "036"};
        ThawGives x = new ThawGives();
        for (int k : new int[] {-1, 7, MIN, MAX}) {
            CHECK.due("taken(0, " + k + "), no THING", x.taken(0, k), -2);
        }
        CHECK.due("taken(0, 0), no THING", x.taken(0, 0), -11);
        for (int kind = 0; kind <= 5; kind++) {
            x.thing(kind + 1, 0, 0, 0);
        }
        for (int p = 0; p <= 5; p++) {
            for (int k = 0; k <= 6; k++) {
                boolean isOne = under[p + 1].indexOf('0' + k) >= 0;
                CHECK.due("taken(" + p + ", " + k + ")", x.taken(p, k), isOne ? p + 1 : -12);
            }
            CHECK.due("k -1", x.taken(p, -1), -2);
            CHECK.due("k 7", x.taken(p, 7), -2);
        }
        for (int p : new int[] {-1, 6, MIN, MAX}) {
            CHECK.due("taken(" + p + ", 0)", x.taken(p, 0), -11);
            CHECK.due("taken(" + p + ", 6)", x.taken(p, 6), -11);
            CHECK.due("taken(" + p + ", 7)", x.taken(p, 7), -2);
        }
        ThawGives thing = new ThawGives();
        thing.thing(0, 0, 0, 0);
        for (int k = 0; k <= 6; k++) {
            CHECK.due("a THING taken for " + k, thing.taken(0, k), k == 0 ? 0 : -12);
        }
    }

    private static void counts() {
        CHECK.by("How many: 0 THINGS, 1 PASSES, 2 SEEN, 3 of the PLAN, 4 of the BOOK, 5 bytes, 6 bodies. BAD");
        ThawGives x = new ThawGives();
        for (int what = 0; what <= 6; what++) {
            CHECK.due("count(" + what + ") at first", x.count(what), 0);
        }
        for (int what : new int[] {-1, 7, MIN, MAX}) {
            CHECK.due("count(" + what + ")", x.count(what), -2);
        }
        for (int i = 0; i < 7; i++) {
            x.thing(6, 0, 0, 0);
        }
        for (int i = 0; i < 7; i++) {
            Check.col(x, "snow 1");
        }
        for (int i = 0; i < 6; i++) {
            x.see(0, 0, true);
        }
        for (int i = 0; i < 11; i++) {
            x.plan(0, 0);
        }
        for (int i = 0; i < 9; i++) {
            x.book(0, 0);
        }
        Check.feed(x, "s".repeat(101));
        x.act(0, 2, 0);
        int[] due = {6, 6, 5, 10, 8, 100, 12};
        for (int what = 0; what <= 6; what++) {
            CHECK.due("count(" + what + ") of all there can be", x.count(what), due[what]);
        }
    }

    private static void sets() {
        CHECK.by("0 WORTH, 1 DEPTH becomes n (0 .. 99): what it was. NONE: thing, what; BAD");
        for (int what = 0; what <= 1; what++) {
            ThawGives x = new ThawGives();
            x.thing(0, 0, 50, 50);
            CHECK.due("to 99", x.set(0, what, 99), 50);
            CHECK.due("to 0", x.set(0, what, 0), 99);
            CHECK.due("to 100", x.set(0, what, 100), -2);
            CHECK.due("to -1", x.set(0, what, -1), -2);
            CHECK.due("stays", x.of(0, 2 + what), 0);
            CHECK.due("the other stays", x.of(0, 3 - what), 50);
            CHECK.due("from 0", x.set(0, what, 7), 0);
        }
        CHECK.by("row: what it was");
        ThawGives x = new ThawGives();
        x.thing(6, 0, 0, 50);
        for (int part = 0; part <= 3; part++) {
            CHECK.due("at first", x.row(0, part, 9), 0);
            CHECK.due("then", x.row(0, part, 0), 9);
            CHECK.due("at last", x.row(0, part, part + 1), 0);
        }
        for (int part = 0; part <= 3; part++) {
            CHECK.due("each its own", x.row(0, part, 5), part + 1);
        }
    }

    private static void passing() {
        CHECK.by("n WEEKS (0 .. 60) go: WEEK. BAD; STATE: it would be above 9999");
        ThawGives x = new ThawGives();
        x.thing(0, 0, 80, 99);
        CHECK.due("pass(0)", x.pass(0), 0);
        CHECK.due("pass(60)", x.pass(60), 60);
        CHECK.due("pass(61)", x.pass(61), -2);
        CHECK.due("pass(-1)", x.pass(-1), -2);
        Check.pass(x, 9939 - 60);
        CHECK.due("pass(60)", x.pass(60), 9999);
        for (int n : new int[] {1, 2, 59, 60}) {
            CHECK.due("pass(" + n + ") from 9999", x.pass(n), -3);
        }
        for (int n : new int[] {-1, 61, MIN, MAX}) {
            CHECK.due("pass(" + n + ") from 9999", x.pass(n), -2);
        }
        CHECK.due("pass(0) from 9999", x.pass(0), 9999);
        ThawGives y = new ThawGives();
        Check.pass(y, 9940);
        CHECK.due("to 10000", y.pass(60), -3);
        CHECK.due("WEEK", y.told(0), 9940);
        CHECK.due("to 9999", y.pass(59), 9999);
    }

    private static void newObject() {
        CHECK.by("No THINGS, no PASS");
        ThawGives x = new ThawGives();
        CHECK.due("image()", x.image(), 0);
        ThawGives y = new ThawGives();
        CHECK.due("THINGS", y.count(0), 0);
        CHECK.due("PASSES", y.count(1), 0);
        CHECK.due("told(2)", y.told(2), 0);
        CHECK.due("told(3)", y.told(3), 0);
        CHECK.due("told(4)", y.told(4), 0);
        CHECK.due("told(5)", y.told(5), -5);
        CHECK.due("on(0, 0)", y.on(0, 0), 0);
        CHECK.due("no IMAGE, though another has one", y.undo(), -3);
        y.thing(0, 0, 0, 9);
        CHECK.due("each its own", x.count(0), 0);
        CHECK.due("no CLAUSES", y.of(0, 4), 8);
        CHECK.due("no SNOW", y.told(1), 0);
    }

    private static void calls() {
        CHECK.by("An object is used for at most 512 calls");
        ThawGives x = new ThawGives();
        CHECK.due("the first", x.thing(0, 0, 80, 50), 0);
        for (int call = 2; call <= 509; call++) {
            CHECK.due("call " + call, x.pass(1), call - 1);
        }
        CHECK.due("call 510", x.of(0, 3), 50);
        CHECK.due("call 511", x.thing(1, 0, 0, 9), 1);
        CHECK.due("the last", x.told(3), 59);
    }
}
