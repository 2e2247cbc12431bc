import java.util.ArrayList;
import java.util.Arrays;
import java.util.List;
import java.util.function.Supplier;

/**
 * Every call with each argument at the last value that is taken and the first that is not, on either side, and far
 * off, each with each: of several refusals the answer is the one that the call's words name first, what is refused
 * changes nothing, and what is asked changes nothing.
 */
public final class RefusalsTest {
    private static final int MIN = Integer.MIN_VALUE;
    private static final int MAX = Integer.MAX_VALUE;
    private static final int NONE = -1, BAD = -2, STATE = -3, FULL = -4;
    private static final int WIDE_NONE = -10001, WIDE_BAD = -10002;
    private static final int NOTHING = -11, CAST = -12, PLACE = -13, SIZE = -14;
    private static final long NO = Long.MIN_VALUE;
    /** How many calls stand between two looks at all of an object: with all else they stay under 512. */
    private static final int AT_ONCE = 50;
    private static final Check CHECK = new Check();

    private interface Call {
        long answer(ThawGives x, int[] a);
    }

    /** One value with which a call is refused, by which answer, and how far ahead its words name that one. */
    private record Wrong(int rank, long answer, int value) {
    }

    private record Due(int[] arguments, boolean isRefused, long answer) {
    }

    private static final class Argument {
        private final int[] taken;
        private final List<Wrong> wrongs = new ArrayList<>();

        private Argument(int[] taken) {
            this.taken = taken;
        }

        private Argument not(int rank, long answer, int... values) {
            for (int value : values) {
                wrongs.add(new Wrong(rank, answer, value));
            }
            return this;
        }
    }

    private final String name;
    private final Supplier<ThawGives> begin;
    private final int things;
    private final List<String> looks;
    /** What is refused however the arguments are, or null. */
    private Wrong always = null;

    private RefusalsTest(String name, Supplier<ThawGives> begin) {
        this.name = name;
        this.begin = begin;
        things = begin.get().count(0);
        looks = Scene.looksBehind(begin.get());
    }

    private RefusalsTest always(int rank, long answer) {
        always = new Wrong(rank, answer, 0);
        return this;
    }

    public static void main(String[] args) {
        for (RefusalsTest test : List.of(new RefusalsTest("no THINGS", RefusalsTest::withoutThings),
            new RefusalsTest("four THINGS", Scene::begin), new RefusalsTest("six THINGS", RefusalsTest::withSix))) {
            test.thingsAndPasses();
            test.weeksAndWorths();
            test.rowsByHand();
            test.tapes();
        }
        full();
        states();
        changesAlone();
        CHECK.end();
    }

    // ---- where the runs begin

    private static ThawGives withoutThings() {
        ThawGives x = new ThawGives();
        x.image();
        Check.feed(x, "snow 4");
        x.tape(0, 0, 3);
        x.tape(1, 0, 4);
        x.tape(2, 3, 2);
        return x;
    }

    private static ThawGives withSix() {
        ThawGives x = Scene.begin();
        x.thing(0, 0, 0, 90);
        x.thing(1, 9, 77, 0);
        return x;
    }

    // ---- how a call is gone through

    private static Argument in(int... taken) {
        return new Argument(taken);
    }

    /** From 0 to most, and nothing else. */
    private static Argument upTo(int most, int rank, long answer) {
        return in(0, most).not(rank, answer, -1, most + 1, MIN, MAX);
    }

    private Argument thing(int rank, long answer) {
        int[] taken = things == 0 ? new int[0] : new int[] {0, things - 1};
        return in(taken).not(rank, answer, -1, things, MIN, MAX);
    }

    private void asks(String call, Call answers, Argument... arguments) {
        go(call, true, answers, arguments);
    }

    private void changes(String call, Call answers, Argument... arguments) {
        go(call, false, answers, arguments);
    }

    private void go(String call, boolean isAsking, Call answers, Argument... arguments) {
        List<Due> dues = new ArrayList<>();
        combine(arguments, new int[arguments.length], 0, always, dues);
        List<Due> still = new ArrayList<>();
        for (Due due : dues) {
            if (due.isRefused || isAsking) {
                still.add(due);
            } else {
                ask(call, begin.get(), answers, due, arguments);
            }
        }
        for (int from = 0; from < still.size(); from += AT_ONCE) {
            ThawGives x = begin.get();
            for (Due due : still.subList(from, Math.min(from + AT_ONCE, still.size()))) {
                ask(call, x, answers, due, arguments);
            }
            String changed = name + ": " + call + " has changed something";
            CHECK.due(changed, Scene.differing(changed, Scene.looksBehind(x), looks), 0);
        }
    }

    private static void combine(Argument[] all, int[] values, int at, Wrong first, List<Due> dues) {
        if (at == all.length) {
            dues.add(new Due(values.clone(), first != null, first == null ? 0 : first.answer));
            return;
        }
        for (int value : all[at].taken) {
            values[at] = value;
            combine(all, values, at + 1, first, dues);
        }
        for (Wrong wrong : all[at].wrongs) {
            values[at] = wrong.value;
            combine(all, values, at + 1, first == null || wrong.rank < first.rank ? wrong : first, dues);
        }
    }

    private void ask(String call, ThawGives x, Call answers, Due due, Argument[] arguments) {
        String told = name + ": " + call + " of " + Arrays.toString(due.arguments);
        long answer = answers.answer(x, due.arguments);
        if (due.isRefused) {
            CHECK.due(told, answer, due.answer);
            return;
        }
        for (Argument argument : arguments) {
            for (Wrong wrong : argument.wrongs) {
                CHECK.due(told + " is taken, not " + wrong.answer, answer == wrong.answer ? 1 : 0, 0);
            }
        }
    }

    // ---- the calls

    private void thingsAndPasses() {
        if (things < 6) {
            changes("thing", (x, a) -> x.thing(a[0], a[1], a[2], a[3]),
                upTo(6, 0, NONE), upTo(9, 1, BAD), upTo(99, 1, BAD), upTo(99, 1, BAD));
        }
        asks("of", (x, a) -> x.of(a[0], a[1]), thing(0, WIDE_NONE), upTo(5, 0, WIDE_NONE));
        changes("set", (x, a) -> x.set(a[0], a[1], a[2]), thing(0, NONE), upTo(1, 0, NONE), upTo(99, 1, BAD));
        asks("melts", (x, a) -> x.melts(a[0], a[1]), thing(0, WIDE_NONE), upTo(60, 1, WIDE_BAD));
        Argument told = things == 0 ? in() : in(0).not(2, STATE, 1, things - 1);
        changes("row", (x, a) -> x.row(a[0], a[1], a[2]),
            told.not(0, NONE, -1, things, MIN, MAX), upTo(3, 0, NONE), upTo(9, 1, BAD));
        changes("feed", (x, a) -> x.feed(a[0]), upTo(127, 0, BAD).not(0, BAD, 256, -128, 'w' + 256));
        int[] ofAll = things == 0 ? new int[] {0, 5} : new int[] {0, 5, 10, 9 + things};
        asks("told", (x, a) -> x.told(a[0]), in(ofAll).not(0, NONE, -1, 6, 9, 10 + things, MIN, MAX));
    }

    private void weeksAndWorths() {
        changes("pass", (x, a) -> x.pass(a[0]), upTo(60, 0, BAD));
        int[] ofAll = things == 0 ? new int[] {0} : new int[] {0, 10, 9 + things};
        asks("on", (x, a) -> x.on(a[0], a[1]), upTo(60, 1, BAD), in(ofAll).not(0, NONE, -1, 1, 9, 10 + things, MIN, MAX));
        asks("by", (x, a) -> x.by(a[0], a[1], a[2]), thing(0, NONE), upTo(30, 1, BAD), upTo(1, 0, NONE));
        asks("need", (x, a) -> x.need(a[0], a[1], a[2]), thing(0, NONE), upTo(30, 1, BAD), upTo(1, 0, NONE));
        asks("can", (x, a) -> x.can(a[0], a[1], a[2]), thing(0, NONE), upTo(2, 0, NONE), upTo(1, 0, NONE));
        asks("odds", (x, a) -> x.odds(a[0], a[1], a[2]), thing(0, NO), upTo(30, 0, NO), upTo(1, 0, NO));
        Argument weeks = things == 0 ? in().not(0, NO, -1, 0, 60, 61) : upTo(60, 0, NO);
        asks("mean", (x, a) -> x.mean(a[0], a[1]), weeks, upTo(1, 0, NO));
    }

    /** The number -1 of a THING, or of what goes, is another call: it empties the rows. */
    private Argument thingOfRow() {
        int[] taken = things == 0 ? new int[0] : new int[] {0, things - 1};
        return in(taken).not(0, NONE, -2, things, MIN, MAX);
    }

    private void rowsByHand() {
        changes("see", (x, a) -> x.see(a[0], a[1], a[2] == 1), thingOfRow(), upTo(20, 1, BAD), in(0, 1));
        changes("plan of 1, 2", (x, a) -> x.plan(a[0], a[1]),
            in(1, 2).not(0, NONE, -2, 4, MIN, MAX), thingOfRow().not(0, NONE, -1));
        changes("plan of 0, 3", (x, a) -> x.plan(a[0], a[1]),
            in(0, 3).not(0, NONE, -2, 4, MIN, MAX), in(-1, 0, things, MIN, MAX));
        asks("ends", (x, a) -> x.ends(a[0]), upTo(1, 0, NONE));
        changes("book", (x, a) -> x.book(a[0], a[1]), thingOfRow(), upTo(99, 1, BAD));
        asks("looked", (x, a) -> x.looked());
        int bodies = begin.get().count(6);
        int[] ran = bodies == 0 ? new int[0] : new int[] {0, bodies - 1};
        asks("trace", (x, a) -> x.trace(a[0]), in(ran).not(0, NONE, -1, bodies, 20, MIN, MAX));
        Argument told = things == 0 ? in() : in(0);
        asks("taken", (x, a) -> x.taken(a[0], a[1]), told.not(1, NOTHING, -1, things, MIN, MAX),
            in(0, 3, 6).not(0, BAD, -1, 7, MIN, MAX).not(2, CAST, 1, 2, 4, 5));
        asks("count", (x, a) -> x.count(a[0]), upTo(6, 0, BAD));
    }

    /** TAPE 0 has three bytes, 1 four, 2 two longs; the others hold nothing. */
    private void tapes() {
        asks("judge", (x, a) -> x.judge(a[0], a[1]),
            in(0, 1, 3, 5).not(0, NONE, -1, 6, MIN, MAX).not(1, CAST, 2), in(-1, 0, 3, 4, MIN, MAX));
        changes("tape", (x, a) -> x.tape(a[0], a[1], a[2]), upTo(5, 0, NONE),
            in(0, 4).not(1, BAD, -2, 5, MIN, MAX), in(0, 60).not(1, BAD, 61, MAX).not(2, SIZE, -1, MIN));
        changes("tape of nothing", (x, a) -> x.tape(a[0], -1, a[1]), upTo(5, 0, NONE), in(-1, 0, 60, 61, MIN, MAX));
        changes("item", (x, a) -> x.item(a[0], a[1], a[2]),
            in(0).not(0, NONE, -1, 6, MIN, MAX).not(1, NOTHING, 3, 4, 5), in(0, 2).not(2, PLACE, -1, 3, MIN, MAX),
            in(0, 77));
        asks("read", (x, a) -> x.read(a[0], a[1]), in(0).not(0, NO, -1, 3, 5, 6, MIN, MAX),
            in(0, 2).not(0, NO, -1, 3, MIN, MAX));
        Argument from = in(0).not(0, NONE, -1, 6, MIN, MAX).not(1, NOTHING, 3, 5);
        Argument to = in(0, 1).not(0, NONE, -1, 6, MIN, MAX).not(1, NOTHING, 3, 5).not(2, CAST, 2);
        changes("shift", (x, a) -> x.shift(a[0], a[1], a[2], a[3], a[4]), from, in(0, 2).not(3, PLACE, -1, 4, MIN, MAX),
            to, in(0, 2).not(3, PLACE, -1, 5, MIN, MAX), in(0, 1).not(3, PLACE, -1, 5, MIN, MAX));
    }

    // ---- what is full, what is as told

    private static void full() {
        RefusalsTest six = new RefusalsTest("six THINGS", RefusalsTest::withSix).always(2, FULL);
        six.changes("thing", (x, a) -> x.thing(a[0], a[1], a[2], a[3]),
            upTo(6, 0, NONE), upTo(9, 1, BAD), upTo(99, 1, BAD), upTo(99, 1, BAD));
        RefusalsTest text = new RefusalsTest("a full TEXT", () -> {
            ThawGives x = Scene.begin();
            Check.feed(x, "x".repeat(100 - x.count(5)));
            return x;
        }).always(1, FULL);
        text.changes("feed", (x, a) -> x.feed(a[0]), upTo(127, 0, BAD));
        RefusalsTest passes = new RefusalsTest("six PASSES", () -> {
            ThawGives x = Scene.begin();
            for (int p = x.count(1); p < 6; p++) {
                Check.col(x, "snow 1");
                Check.col(x, "snow 1");
            }
            Check.feed(x, "no PASS");
            return x;
        }).always(0, FULL);
        passes.changes("col", (x, a) -> x.col());
        RefusalsTest seen = new RefusalsTest("five rows SEEN", () -> {
            ThawGives x = Scene.begin();
            for (int i = x.count(2); i < 5; i++) {
                x.see(i - 1, i, true);
            }
            return x;
        }).always(2, FULL);
        seen.changes("see", (x, a) -> x.see(a[0], a[1], a[2] == 1), seen.thingOfRow(), upTo(20, 1, BAD), in(0, 1));
        RefusalsTest plan = new RefusalsTest("ten rows of the PLAN", () -> {
            ThawGives x = Scene.begin();
            for (int i = x.count(3); i < 10; i++) {
                x.plan(0, 0);
            }
            return x;
        }).always(1, FULL);
        plan.changes("plan", (x, a) -> x.plan(a[0], a[1]),
            in(1, 2).not(0, NONE, -2, 4, MIN, MAX), plan.thingOfRow().not(0, NONE, -1));
        plan.changes("plan", (x, a) -> x.plan(a[0], a[1]),
            in(0, 3).not(0, NONE, -2, 4, MIN, MAX), in(-1, 0, 4, MIN, MAX));
        RefusalsTest book = new RefusalsTest("eight rows of the BOOK", () -> {
            ThawGives x = Scene.begin();
            for (int i = x.count(4); i < 8; i++) {
                x.book(1, x.of(1, 3));
            }
            return x;
        }).always(2, FULL);
        book.changes("book", (x, a) -> x.book(a[0], a[1]), book.thingOfRow(), upTo(99, 1, BAD));
    }

    /** What changes something changes no more than that. */
    private static void changesAlone() {
        List<String> looks = Scene.looksBehind(Scene.begin());
        ThawGives acts = Scene.begin();
        for (int act = -1; act <= 3; act++) {
            for (int thing = -1; thing <= 4; thing++) {
                acts.act(thing, act, MAX);
            }
        }
        acts.act(0, 2, 9);
        CHECK.due("act: THE TRACE alone", Scene.differing("act", Scene.looksBehind(acts), looks), 0);
        ThawGives image = Scene.begin();
        image.image();
        CHECK.due("image: THE IMAGE alone", Scene.differing("image", Scene.looks(image), Scene.looks(Scene.begin())), 0);
        ThawGives undone = Scene.begin();
        undone.image();
        undone.undo();
        CHECK.due("image, undo", Scene.differing("undo", Scene.looks(undone), Scene.looks(Scene.begin())), 0);
        ThawGives none = Scene.begin();
        none.pass(0);
        none.shift(0, 3, 1, 4, 0);
        none.shift(1, 0, 1, 0, 4);
        none.set(0, 0, none.of(0, 2));
        none.set(0, 1, none.of(0, 3));
        none.tape(5, -1, 0);
        CHECK.due("as it was", Scene.differing("as it was", Scene.looksBehind(none), looks), 0);
    }

    private static void states() {
        RefusalsTest late = new RefusalsTest("late", () -> {
            ThawGives x = new ThawGives();
            x.thing(0, 0, 85, 3);
            x.image();
            Check.pass(x, 9962);
            return x;
        });
        late.changes("pass", (x, a) -> x.pass(a[0]),
            in(0, 37).not(0, BAD, -1, 61, MIN, MAX).not(1, STATE, 38, 60));
        RefusalsTest fresh = new RefusalsTest("no IMAGE", () -> {
            ThawGives x = new ThawGives();
            x.thing(0, 0, 85, 3);
            return x;
        }).always(0, STATE);
        fresh.changes("undo", (x, a) -> x.undo());
    }
}
