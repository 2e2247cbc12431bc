import java.util.ArrayList;
import java.util.List;

/**
 * A ThawGives in the midst of things, and all that can be asked of one: so that two of them can be held against each
 * other. Making one, all looks at it twice and what lies between are fewer calls than the 512 of an object.
 */
final class Scene {
    private static final String TEXT = "snow 41";

    private Scene() {
    }

    /** Four THINGS, an IMAGE that is otherwise by now, rows of each sort, a PASS that holds, a TEXT not yet read. */
    static ThawGives begin() {
        ThawGives x = new ThawGives();
        x.thing(6, 2, 35, 40);
        x.thing(4, 8, 10, 60);
        x.row(0, 1, 5);
        x.see(0, 7, true);
        x.plan(2, 0);
        x.book(1, 60);
        Check.col(x, "warm 1 d>1&!p=1;snow 2");
        x.image();
        x.thing(5, 4, 57, 33);
        x.thing(3, 5, 99, 25);
        x.row(0, 2, 7);
        x.see(2, 5, false);
        x.plan(0, 0);
        x.plan(3, 0);
        x.book(2, 33);
        x.pass(2);
        Check.col(x, "frost 2 w<4;snow 6");
        Check.feed(x, TEXT);
        x.act(0, 2, 9);
        x.tape(0, 0, 3);
        x.tape(1, 0, 4);
        x.tape(2, 3, 2);
        x.item(0, 0, 5);
        x.item(0, 1, x.of(0, 3));
        x.item(0, 2, x.of(1, 3));
        x.item(1, 3, -7);
        x.item(2, 1, 1L << 40);
        return x;
    }

    /** What answers to all that can be asked, a line for each call. */
    static List<String> looks(ThawGives x) {
        List<String> looks = new ArrayList<>();
        for (int what = 0; what <= 6; what++) {
            looks.add("count(" + what + ") is " + x.count(what));
        }
        int things = x.count(0);
        for (int p = 0; p < things; p++) {
            looksAtThing(x, p, looks);
        }
        for (int what = 0; what < 10 + things; what++) {
            looks.add("told(" + what + ") is " + x.told(what));
        }
        looks.add("ends(0) is " + x.ends(0));
        looks.add("ends(1) is " + x.ends(1));
        looks.add("looked() is " + x.looked());
        looks.add("mean(9, 0) is " + x.mean(9, 0));
        int bodies = Math.min(20, x.count(6));
        for (int i = 0; i < bodies; i++) {
            looks.add("trace(" + i + ") is " + x.trace(i));
        }
        for (int tape = 0; tape <= 5; tape++) {
            looks.add("judge(" + tape + ", 1) is " + x.judge(tape, 1));
            for (int i = 0; i < 5; i++) {
                looks.add("read(" + tape + ", " + i + ") is " + x.read(tape, i));
            }
        }
        return looks;
    }

    private static void looksAtThing(ThawGives x, int p, List<String> looks) {
        for (int what = 0; what <= 5; what++) {
            looks.add("of(" + p + ", " + what + ") is " + x.of(p, what));
        }
        for (int n = 1; n <= 3 && x.of(p, 0) == 6; n++) {
            looks.add("melts(" + p + ", " + n + ") is " + x.melts(p, n));
        }
        looks.add("on(6, 1" + p + ") is " + x.on(6, 10 + p));
        looks.add("need(" + p + ", 6, 0) is " + x.need(p, 6, 0));
        looks.add("can(" + p + ", 0, 0) is " + x.can(p, 0, 0));
        looks.add("can(" + p + ", 1, 1) is " + x.can(p, 1, 1));
    }

    /** What answers when THE TEXT is read, and then, after all is as THE IMAGE: what cannot be seen otherwise. */
    static List<String> looksBehind(ThawGives x) {
        List<String> looks = looks(x);
        looks.add("col() is " + x.col());
        looks.add("then told(1) is " + x.told(1));
        looks.add("undo() is " + x.undo());
        for (String look : looks(x)) {
            looks.add("behind undo(): " + look);
        }
        return looks;
    }

    /** How many looks differ; the first that does is printed. */
    static int differing(String name, List<String> are, List<String> due) {
        int differing = Math.abs(are.size() - due.size());
        for (int i = 0; i < Math.min(are.size(), due.size()); i++) {
            if (!are.get(i).equals(due.get(i))) {
                if (differing == 0) {
                    System.out.println(name + ": " + are.get(i) + ", due is: " + due.get(i));
                }
                differing++;
            }
        }
        return differing;
    }
}
