/** Promises 18 to 24: plan, ends, book, looked, judge, image, undo. */
public final class PlansTest {
    private static final Check CHECK = new Check();

    public static void main(String[] args) {
        plan();
        ends();
        endsOfWorthAndWeeks();
        endsAtTheEdges();
        book();
        judge();
        judgeWithoutThings();
        imageOfThings();
        imageOfRows();
        imageOfThePass();
        notInTheImage();
        CHECK.end();
    }

    private static void plan() {
        ThawGives x = new ThawGives();
        x.thing(0, 0, 0, 40);
        CHECK.due("what 4", x.plan(4, 0), -1);
        CHECK.due("what -2", x.plan(-2, 0), -1);
        CHECK.due("1 of thing 1", x.plan(1, 1), -1);
        CHECK.due("1 of thing -1", x.plan(1, -1), -1);
        CHECK.due("2 of thing 6", x.plan(2, 6), -1);
        CHECK.due("none came", x.count(3), 0);
        CHECK.due("0 of any", x.plan(0, 77), 1);
        CHECK.due("3 of any", x.plan(3, -7), 2);
        CHECK.due("1 of 0", x.plan(1, 0), 3);
        CHECK.due("2 of 0", x.plan(2, 0), 4);
        for (int i = 5; i <= 10; i++) {
            CHECK.due("plan " + i, x.plan(0, 0), i);
        }
        CHECK.due("FULL", x.plan(0, 0), -4);
        CHECK.due("NONE ahead of FULL", x.plan(4, 0), -1);
        CHECK.due("NONE ahead of FULL", x.plan(2, 1), -1);
        CHECK.due("ten", x.count(3), 10);
        CHECK.due("empty then", x.plan(-1, 99), 0);
        CHECK.due("none", x.count(3), 0);
        CHECK.due("one", x.plan(3, 0), 1);
    }

    private static void ends() {
        ThawGives x = new ThawGives();
        CHECK.due("no THINGS", x.ends(0), 0);
        CHECK.due("no THINGS", x.ends(1), 0);
        x.thing(0, 0, 0, 40);
        x.thing(0, 0, 35, 9);
        endsOf(x, 49, 0);
        x.plan(0, 0);
        endsOf(x, 36, 0);
        x.plan(0, 0);
        endsOf(x, 24, 2);
        x.plan(3, 0);
        endsOf(x, 34, 2);
        x.plan(1, 0);
        endsOf(x, 0, 3);
        CHECK.due("what 2", x.ends(2), -1);
        CHECK.due("what -1", x.ends(-1), -1);
        CHECK.due("nothing has changed", x.told(3), 49);
        CHECK.due("nor WEEK", x.told(0), 0);
        x.pass(1);
        x.plan(-1, 0);
        x.plan(0, 0);
        endsOf(x, 24, 2);
    }

    private static void endsOf(ThawGives x, int together, int bits) {
        CHECK.due("ends(0)", x.ends(0), together);
        CHECK.due("ends(1)", x.ends(1), bits);
    }

    private static void endsOfWorthAndWeeks() {
        ThawGives x = new ThawGives();
        x.thing(0, 0, 35, 40);
        x.thing(0, 0, 35, 0);
        x.plan(2, 0);
        x.plan(0, 0);
        endsOf(x, 34, 2);
        x.plan(2, 0);
        x.plan(2, 0);
        x.plan(2, 0);
        x.plan(2, 0);
        x.plan(0, 0);
        endsOf(x, 26, 2);
        CHECK.due("WORTH stays", x.of(0, 2), 35);
        x.plan(-1, 0);
        x.plan(2, 0);
        x.set(0, 0, 39);
        x.plan(0, 0);
        endsOf(x, 34, 2);
        x.set(0, 0, 40);
        endsOf(x, 35, 2);
        // the WEEKS of a PLAN go on from this one, and are beyond 9999, too
        ThawGives y = new ThawGives();
        for (int i = 0; i < 166; i++) {
            y.pass(60);
        }
        y.pass(39);
        y.thing(4, 0, 0, 90);
        Check.col(y, "snow 4;warm 1 m=0");
        y.plan(0, 0);
        y.plan(0, 0);
        endsOf(y, 90 - 10 - 22 + 4, 0);
        ThawGives z = new ThawGives();
        z.thing(0, 0, 0, 50);
        z.thing(0, 0, 0, 50);
        z.plan(1, 1);
        endsOf(z, 50, 2);
        z.plan(2, 1);
        z.plan(0, 1);
        endsOf(z, 42, 2);
    }

    private static void endsAtTheEdges() {
        ThawGives x = new ThawGives();
        x.thing(0, 0, 9, 95);
        x.thing(0, 0, 80, 0);
        x.plan(3, 0);
        endsOf(x, 99, 2);
        x.plan(2, 0);
        x.plan(0, 0);
        endsOf(x, 91, 2);
        x.plan(1, 0);
        x.plan(3, 0);
        endsOf(x, 0, 3);
    }

    private static void book() {
        ThawGives x = new ThawGives();
        x.thing(0, 0, 0, 40);
        x.thing(0, 0, 0, 9);
        CHECK.due("an empty BOOK", x.looked(), -5);
        CHECK.due("thing 2", x.book(2, 0), -1);
        CHECK.due("thing -2", x.book(-2, 0), -1);
        CHECK.due("NONE ahead of BAD", x.book(2, 100), -1);
        CHECK.due("depth 100", x.book(0, 100), -2);
        CHECK.due("depth -1", x.book(0, -1), -2);
        CHECK.due("none came", x.count(4), 0);
        CHECK.due("first", x.book(0, 40), 1);
        CHECK.due("so it is", x.looked(), -5);
        CHECK.due("second", x.book(1, 9), 2);
        CHECK.due("so they are", x.looked(), -5);
        CHECK.due("third", x.book(0, 41), 3);
        CHECK.due("the third is otherwise", x.looked(), 2);
        x.pass(1);
        CHECK.due("the first is otherwise", x.looked(), 0);
        x.set(0, 1, 40);
        CHECK.due("the second is otherwise", x.looked(), 1);
        for (int i = 4; i <= 8; i++) {
            CHECK.due("book " + i, x.book(0, i == 4 ? 0 : 99), i);
        }
        CHECK.due("FULL", x.book(0, 0), -4);
        CHECK.due("BAD ahead of FULL", x.book(0, 100), -2);
        CHECK.due("NONE ahead of FULL", x.book(2, 0), -1);
        CHECK.due("eight", x.count(4), 8);
        CHECK.due("empty then", x.book(-1, 100), 0);
        CHECK.due("none", x.count(4), 0);
        CHECK.due("nothing looked at", x.looked(), -5);
    }

    private static void judge() {
        ThawGives x = new ThawGives();
        x.thing(0, 0, 0, 40);
        x.thing(0, 0, 0, 0);
        x.thing(0, 0, 0, 99);
        CHECK.due("tape -1", x.judge(-1, 0), -1);
        CHECK.due("tape 6", x.judge(6, 0), -1);
        CHECK.due("nothing", x.judge(2, 0), 100);
        x.tape(2, 0, 5);
        x.item(2, 1, 40);
        x.item(2, 3, 99);
        CHECK.due("so it is", x.judge(2, 1), -5);
        CHECK.due("the first is otherwise", x.judge(2, 0), 0);
        CHECK.due("the third is otherwise", x.item(2, 3, 98) == 1 ? x.judge(2, 1) : 0, 2);
        x.item(2, 2, 1);
        CHECK.due("the second is otherwise", x.judge(2, 1), 1);
        CHECK.due("the place is below 0", x.judge(2, -1), 100);
        CHECK.due("the place is far below 0", x.judge(2, Integer.MIN_VALUE), 100);
        CHECK.due("the place is at the end", x.judge(2, 5), 100);
        CHECK.due("the place is far off", x.judge(2, Integer.MAX_VALUE), 100);
        x.item(2, 4, 40);
        CHECK.due("the row ends behind one", x.judge(2, 4), 101);
        x.item(2, 3, 40);
        x.item(2, 4, 0);
        CHECK.due("the row ends behind two", x.judge(2, 3), 102);
        x.item(2, 4, 7);
        CHECK.due("otherwise ahead of the end", x.judge(2, 3), 1);
        x.tape(2, 0, 0);
        CHECK.due("an empty row", x.judge(2, 0), 100);
        for (int sort = 1; sort <= 4; sort++) {
            x.tape(3, sort, 5);
            CHECK.due("sort " + sort, x.judge(3, 0), -12);
            CHECK.due("sort " + sort + " ahead of the place", x.judge(3, -1), -12);
        }
    }

    private static void judgeWithoutThings() {
        ThawGives x = new ThawGives();
        CHECK.due("nothing", x.judge(0, 0), -5);
        CHECK.due("nothing, below 0", x.judge(0, -1), -5);
        CHECK.due("nothing, far off", x.judge(5, 1000), -5);
        x.tape(0, 0, 2);
        CHECK.due("bytes", x.judge(0, 0), -5);
        CHECK.due("bytes, beyond the end", x.judge(0, 3), -5);
        x.tape(0, 2, 2);
        CHECK.due("ints", x.judge(0, 0), -12);
        CHECK.due("tape 6", x.judge(6, 0), -1);
    }

    private static void imageOfThings() {
        ThawGives x = new ThawGives();
        CHECK.due("no IMAGE", x.undo(), -3);
        CHECK.due("of nothing", x.image(), 0);
        x.thing(6, 3, 20, 60);
        x.thing(5, 4, 30, 70);
        x.row(0, 1, 8);
        x.pass(2);
        CHECK.due("to nothing", x.undo(), 0);
        CHECK.due("no THINGS", x.count(0), 0);
        CHECK.due("WEEK 0", x.told(0), 0);
        CHECK.due("another first", x.thing(6, 5, 40, 50), 0);
        CHECK.due("its ROW is new", x.row(0, 1, 7), 0);
        CHECK.due("of one", x.image(), 1);
        x.thing(1, 1, 1, 1);
        x.set(0, 0, 11);
        x.set(0, 1, 12);
        x.row(0, 1, 1);
        x.pass(7);
        for (int again = 0; again < 2; again++) {
            CHECK.due("to one", x.undo(), 1);
            int[] due = {6, 5, 40, 50};
            for (int what = 0; what < due.length; what++) {
                CHECK.due("of(0, " + what + ")", x.of(0, what), due[what]);
            }
            CHECK.due("WEEK", x.told(0), 0);
            CHECK.due("no THING 1", x.of(1, 0), -10001);
            CHECK.due("ROW", x.row(0, 1, 3), 7);
            x.thing(2, 2, 2, 2);
            x.pass(3);
        }
    }

    private static void imageOfRows() {
        ThawGives x = new ThawGives();
        x.thing(0, 0, 0, 40);
        x.see(0, 5, true);
        x.plan(0, 0);
        x.book(0, 40);
        x.book(0, 30);
        x.image();
        x.see(0, 5, false);
        x.plan(1, 0);
        x.plan(1, 0);
        x.book(-1, 0);
        x.book(0, 39);
        CHECK.due("otherwise", x.can(0, 0, 0), 0);
        CHECK.due("otherwise", x.ends(0), 0);
        CHECK.due("otherwise", x.looked(), 0);
        x.undo();
        CHECK.due("SEEN", x.count(2), 1);
        CHECK.due("WORTHS", x.can(0, 0, 0), 10);
        CHECK.due("the PLAN", x.count(3), 1);
        CHECK.due("ENDS", x.ends(0), 32);
        CHECK.due("the BOOK", x.count(4), 2);
        CHECK.due("LOOKED at", x.looked(), 1);
        x.see(-1, 0, false);
        x.see(0, 5, false);
        x.plan(-1, 0);
        x.plan(3, 0);
        x.undo();
        CHECK.due("WORTHS once more", x.can(0, 0, 0), 10);
        CHECK.due("ENDS once more", x.ends(0), 32);
    }

    private static void imageOfThePass() {
        ThawGives x = new ThawGives();
        x.thing(0, 0, 0, 40);
        x.image();
        Check.col(x, "warm 1 p=0;snow 5");
        CHECK.due("0 holds", x.of(0, 4), 9);
        x.undo();
        CHECK.due("none holds", x.of(0, 4), 8);
        CHECK.due("no SNOW", x.told(1), 0);
        CHECK.due("PASSES stay", x.count(1), 1);
        CHECK.due("the next", Check.col(x, "warm 2 p=0;snow 6"), 1);
        x.image();
        CHECK.due("the one behind it", Check.col(x, "warm 3 p=0"), 2);
        CHECK.due("2 holds", x.of(0, 4), 11);
        x.undo();
        CHECK.due("1 holds", x.of(0, 4), 10);
        CHECK.due("its SNOW", x.told(1), 6);
        CHECK.due("a FAULT", Check.col(x, "warm"), -14);
        CHECK.due("1 holds still", x.of(0, 4), 10);
        CHECK.due("the number goes on", Check.col(x, "warm 4 p=0"), 3);
    }

    private static void notInTheImage() {
        ThawGives x = new ThawGives();
        x.thing(0, 0, 0, 40);
        x.image();
        Check.feed(x, "warm");
        x.tape(1, 2, 3);
        x.item(1, 0, 77);
        x.act(0, 2, 5);
        x.undo();
        CHECK.due("THE TEXT stays", x.count(5), 4);
        CHECK.due("the TAPE stays", x.read(1, 0), 77);
        CHECK.due("THE TRACE stays", x.trace(0), 12);
        CHECK.due("its bodies", x.count(6), 3);
    }
}
