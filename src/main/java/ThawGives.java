/**
 * The thaw gives back, dearest last: things that lie under snow, and weeks in which it melts over them.
 *
 * <p>What every call answers stands in DOC.md; words in capitals here are the document's own.
 */
public final class ThawGives {
    public static final int NONE = -1, BAD = -2, STATE = -3, FULL = -4;
    public static final long NO = Long.MIN_VALUE;

    /** NONE and BAD of the calls whose answer may be below 0 anyway. */
    private static final int WIDE_NONE = -10001, WIDE_BAD = -10002;
    private static final int NOTHING = -11, CAST = -12, PLACE = -13, SIZE = -14;
    /** The answer of what is asked and is not to be had. */
    private static final int NEVER = -5;

    private static final int THING = 0, METAL = 1, CLOTH = 2, LIVING = 3, KNIFE = 4, LETTER = 5, TOLD = 6;
    /** For each KIND the one that it stands under. */
    private static final int[] ABOVE = {-1, THING, THING, THING, METAL, CLOTH, LIVING};

    private static final int MOST_THINGS = 6, MOST_PASSES = 6, MOST_TAPES = 6;
    private static final int MOST_SEEN = 5, MOST_PLAN = 10, MOST_BOOK = 8;
    private static final int MOST_SIGNS = 100, MOST_CLAUSES = 10, MOST_WITHIN = 4;
    private static final int MOST_ITEMS = 60;
    private static final int LAST_WEEK = 9999;
    /** How many WEEKS ahead a call may look: mostly, by other WORTHS and DEPTHS, by what is SEEN. */
    private static final int MOST_WEEKS = 60, MOST_WEEKS_TRIED = 30, MOST_WEEKS_SEEN = 20;
    /** WHEN of a THING that is not OUT by then: greater than all others. */
    private static final int LATER = MOST_WEEKS + 1;
    /** The greatest WORTH and DEPTH, the greatest v and number of a ROW. */
    private static final int MOST = 99, MOST_V = 9;

    /** What of a THING is set, or is asked to be otherwise. */
    private static final int WORTH = 0, DEPTH = 1, V = 2;

    private final Winter now = new Winter();
    private final Winter kept = new Winter();
    private boolean isKept = false;
    /** Stands in for a THING in all that is asked, so that the THING itself stays as it is. */
    private final Thing trial = new Thing(0);
    private final int[] whens = new int[MOST_THINGS];

    private final Text text = new Text();
    private final Pass[] passes = new Pass[MOST_PASSES];
    private int passCount = 0;
    /** Holds while no other does. */
    private final Pass noPass = new Pass();

    private final Acts acts = new Acts();
    private final Tape[] tapes = new Tape[MOST_TAPES];

    public ThawGives() {
        for (int i = 0; i < MOST_PASSES; i++) {
            passes[i] = new Pass();
        }
        for (int i = 0; i < MOST_TAPES; i++) {
            tapes[i] = new Tape();
        }
    }

    // ---- things, passes

    public int thing(int kind, int v, int worth, int depth) {
        if (!isUpTo(kind, TOLD)) {
            return NONE;
        }
        if (!isUpTo(v, MOST_V) || !isUpTo(worth, MOST) || !isUpTo(depth, MOST)) {
            return BAD;
        }
        if (now.count >= MOST_THINGS) {
            return FULL;
        }
        int number = now.count;
        now.things[number].begin(kind, v, worth, depth);
        now.count++;
        return number;
    }

    public int of(int thing, int what) {
        if (!isThing(thing)) {
            return WIDE_NONE;
        }
        Thing one = now.things[thing];
        switch (what) {
            case 0:
                return one.kind;
            case 1:
                return one.v;
            case 2:
                return one.worth;
            case 3:
                return one.depth;
            case 4:
                return one.meltIn(now.week, holding());
            case 5:
                return orNever(whenOf(thing));
            default:
                return WIDE_NONE;
        }
    }

    public int set(int thing, int what, int n) {
        if (!isThing(thing) || !isUpTo(what, DEPTH)) {
            return NONE;
        }
        if (!isUpTo(n, MOST)) {
            return BAD;
        }
        Thing one = now.things[thing];
        int was = what == WORTH ? one.worth : one.depth;
        one.put(what, n);
        return was;
    }

    public int melts(int thing, int n) {
        if (!isThing(thing)) {
            return WIDE_NONE;
        }
        if (!isUpTo(n, MOST_WEEKS)) {
            return WIDE_BAD;
        }
        return now.things[thing].meltIn(now.week + n, holding());
    }

    public int row(int thing, int part, int n) {
        if (!isThing(thing) || !isUpTo(part, 3)) {
            return NONE;
        }
        if (!isUpTo(n, MOST_V)) {
            return BAD;
        }
        Thing one = now.things[thing];
        if (one.kind != TOLD) {
            return STATE;
        }
        int was = one.row[part];
        one.row[part] = n;
        return was;
    }

    public int feed(int sign) {
        if (!isUpTo(sign, 127)) {
            return BAD;
        }
        if (text.length >= MOST_SIGNS) {
            return FULL;
        }
        text.add(sign);
        return text.length;
    }

    public int col() {
        if (passCount >= MOST_PASSES) {
            return FULL;
        }
        int fault = text.readInto(passes[passCount]);
        text.length = 0;
        if (fault >= 0) {
            return -10 - fault;
        }
        now.holds = passCount;
        passCount++;
        return now.holds;
    }

    public int told(int what) {
        switch (what) {
            case 0:
                return now.week;
            case 1:
                return holding().snow;
            case 2:
                return outBits(0);
            case 3:
                return depthOfAll(0);
            case 4:
                return crossed(false);
            case 5:
                return crossed(true);
            default:
                return what >= 10 ? inOrder(what - 10) : NONE;
        }
    }

    // ---- weeks

    public int pass(int n) {
        if (!isUpTo(n, MOST_WEEKS)) {
            return BAD;
        }
        if (now.week + n > LAST_WEEK) {
            return STATE;
        }
        for (int p = 0; p < now.count; p++) {
            goWeeks(now.things[p], n);
        }
        now.week += n;
        return now.week;
    }

    public int on(int n, int what) {
        boolean isOfThing = what >= 10 && isThing(what - 10);
        if (what != 0 && !isOfThing) {
            return NONE;
        }
        if (!isUpTo(n, MOST_WEEKS)) {
            return BAD;
        }
        return isOfThing ? depthBehind(what - 10, n) : outBits(n);
    }

    // ---- worths

    public int by(int thing, int n, int what) {
        if (!isThing(thing) || !isUpTo(what, 1)) {
            return NONE;
        }
        if (!isUpTo(n, MOST_WEEKS_TRIED)) {
            return BAD;
        }
        return what == 0 ? worthsOut(thing, n) : greatestWorthOut(thing, n);
    }

    public int need(int thing, int n, int what) {
        if (!isThing(thing) || !isUpTo(what, 1)) {
            return NONE;
        }
        if (!isUpTo(n, MOST_WEEKS_TRIED)) {
            return BAD;
        }
        return what == 0 ? less(thing, n) : moreToKeep(thing, n);
    }

    // ---- seen, odds

    public int see(int thing, int n, boolean isOut) {
        if (thing == -1) {
            now.seen.size = 0;
            return 0;
        }
        if (!isThing(thing)) {
            return NONE;
        }
        if (!isUpTo(n, MOST_WEEKS_SEEN)) {
            return BAD;
        }
        return now.seen.add(thing, n, isOut ? 1 : 0);
    }

    public int can(int thing, int which, int what) {
        if (!isThing(thing) || !isUpTo(which, V) || !isUpTo(what, 1)) {
            return NONE;
        }
        int last = which == V ? MOST_V : MOST;
        int least = NEVER;
        int many = 0;
        for (int n = last; n >= 0; n--) {
            if (isAllSeenSo(thing, which, n)) {
                least = n;
                many++;
            }
        }
        return what == 0 ? many : least;
    }

    public long odds(int thing, int n, int part) {
        if (!isThing(thing) || !isUpTo(n, MOST_WEEKS_TRIED) || !isUpTo(part, 1)) {
            return NO;
        }
        return partOf(worthsOut(thing, n), MOST + 1, part);
    }

    public long mean(int n, int part) {
        if (!isUpTo(n, MOST_WEEKS) || !isUpTo(part, 1) || now.count == 0) {
            return NO;
        }
        return partOf(depthOfAll(n), now.count, part);
    }

    // ---- plans, books

    public int plan(int what, int thing) {
        if (what == -1) {
            now.plan.size = 0;
            return 0;
        }
        if (!isUpTo(what, 3)) {
            return NONE;
        }
        boolean isOfThing = what == 1 || what == 2;
        if (isOfThing && !isThing(thing)) {
            return NONE;
        }
        return now.plan.add(what, thing, 0);
    }

    public int ends(int what) {
        if (!isUpTo(what, 1)) {
            return NONE;
        }
        int together = 0;
        int bits = 0;
        for (int p = 0; p < now.count; p++) {
            int depth = depthByPlan(p);
            together += depth;
            if (depth == 0) {
                bits |= 1 << p;
            }
        }
        return what == 0 ? together : bits;
    }

    public int book(int thing, int depth) {
        if (thing == -1) {
            now.book.size = 0;
            return 0;
        }
        if (!isThing(thing)) {
            return NONE;
        }
        if (!isUpTo(depth, MOST)) {
            return BAD;
        }
        return now.book.add(thing, depth, 0);
    }

    public int looked() {
        Rows book = now.book;
        for (int i = 0; i < book.size; i++) {
            int thing = book.first[i];
            if (isThing(thing) && now.things[thing].depth != book.second[i]) {
                return i;
            }
        }
        return NEVER;
    }

    // ---- judging, the image, acts, tapes

    public int judge(int tape, int i) {
        if (!isTape(tape)) {
            return NONE;
        }
        Tape row = tapes[tape];
        if (row.sort != Tape.NOTHING_HELD && row.sort != Tape.BYTES) {
            return CAST;
        }
        for (int p = 0; p < now.count; p++) {
            int place = i + p;
            if (!row.hasPlace(place)) {
                return 100 + p;
            }
            if (row.items[place] != now.things[p].depth) {
                return p;
            }
        }
        return NEVER;
    }

    public int image() {
        kept.become(now);
        isKept = true;
        return now.count;
    }

    public int undo() {
        if (!isKept) {
            return STATE;
        }
        now.become(kept);
        return now.count;
    }

    public int act(int thing, int act, int x) {
        acts.forget();
        if (!isThing(thing) || !isUpTo(act, Acts.TELLS)) {
            return 0;
        }
        return acts.start(now.things[thing], act, x);
    }

    public int trace(int i) {
        if (i < 0 || i >= acts.ran || i >= Acts.MOST_KEPT) {
            return NONE;
        }
        return acts.bodies[i];
    }

    public int taken(int thing, int k) {
        if (!isUpTo(k, TOLD)) {
            return BAD;
        }
        if (!isThing(thing)) {
            return NOTHING;
        }
        int kind = now.things[thing].kind;
        // no KIND stands lower than under one that is under THING
        boolean isOne = k == kind || k == THING || k == ABOVE[kind];
        return isOne ? kind : CAST;
    }

    public int count(int what) {
        switch (what) {
            case 0:
                return now.count;
            case 1:
                return passCount;
            case 2:
                return now.seen.size;
            case 3:
                return now.plan.size;
            case 4:
                return now.book.size;
            case 5:
                return text.length;
            case 6:
                return acts.ran;
            default:
                return BAD;
        }
    }

    public int tape(int tape, int sort, int n) {
        if (!isTape(tape)) {
            return NONE;
        }
        if (sort == Tape.NOTHING_HELD) {
            tapes[tape].begin(sort, 0);
            return 1;
        }
        if (!isUpTo(sort, Tape.BOOLEANS) || n > MOST_ITEMS) {
            return BAD;
        }
        if (n < 0) {
            return SIZE;
        }
        tapes[tape].begin(sort, n);
        return 1;
    }

    public int item(int tape, int i, long v) {
        if (!isTape(tape)) {
            return NONE;
        }
        if (tapes[tape].sort == Tape.NOTHING_HELD) {
            return NOTHING;
        }
        if (!tapes[tape].hasPlace(i)) {
            return PLACE;
        }
        tapes[tape].put(i, v);
        return 1;
    }

    public long read(int tape, int i) {
        if (!isTape(tape) || !tapes[tape].hasPlace(i)) {
            return NO;
        }
        return tapes[tape].items[i];
    }

    public int shift(int tape, int i, int other, int j, int n) {
        if (!isTape(tape) || !isTape(other)) {
            return NONE;
        }
        Tape from = tapes[tape];
        Tape to = tapes[other];
        if (from.sort == Tape.NOTHING_HELD || to.sort == Tape.NOTHING_HELD) {
            return NOTHING;
        }
        if (from.sort != to.sort) {
            return CAST;
        }
        if (!from.hasPlaces(i, n) || !to.hasPlaces(j, n)) {
            return PLACE;
        }
        System.arraycopy(from.items, i, to.items, j, n);
        return n;
    }

    // ---- what the calls share

    private static boolean isUpTo(int n, int most) {
        return n >= 0 && n <= most;
    }

    private boolean isThing(int thing) {
        return thing >= 0 && thing < now.count;
    }

    private boolean isTape(int tape) {
        return isUpTo(tape, MOST_TAPES - 1);
    }

    private Pass holding() {
        return isUpTo(now.holds, MOST_PASSES - 1) ? passes[now.holds] : noPass;
    }

    private static int orNever(int when) {
        return when == LATER ? NEVER : when;
    }

    /** One part of a fraction in lowest terms; below is no more than some hundred. */
    private static int partOf(int above, int below, int part) {
        int number = part == 0 ? above : below;
        for (int d = below; d > 1; d--) {
            if (above % d == 0 && below % d == 0) {
                return number / d;
            }
        }
        return number;
    }

    private void goWeeks(Thing thing, int n) {
        Pass pass = holding();
        for (int k = 0; k < n; k++) {
            thing.goWeek(now.week + k, pass);
        }
    }

    private int depthBehind(int thing, int n) {
        trial.become(now.things[thing]);
        goWeeks(trial, n);
        return trial.depth;
    }

    private int outBits(int n) {
        int bits = 0;
        for (int p = 0; p < now.count; p++) {
            if (depthBehind(p, n) == 0) {
                bits |= 1 << p;
            }
        }
        return bits;
    }

    private int depthOfAll(int n) {
        int together = 0;
        for (int p = 0; p < now.count; p++) {
            together += depthBehind(p, n);
        }
        return together;
    }

    private int whenOf(int thing) {
        Pass pass = holding();
        trial.become(now.things[thing]);
        for (int n = 0; n <= MOST_WEEKS; n++) {
            if (trial.isOut()) {
                return n;
            }
            trial.goWeek(now.week + n, pass);
        }
        return LATER;
    }

    private void findWhens() {
        for (int p = 0; p < now.count; p++) {
            whens[p] = whenOf(p);
        }
    }

    /** The k-th of ORDER, or NONE. */
    private int inOrder(int k) {
        findWhens();
        for (int p = 0; p < now.count; p++) {
            int ahead = 0;
            for (int q = 0; q < now.count; q++) {
                if (whens[q] < whens[p] || whens[q] == whens[p] && q < p) {
                    ahead++;
                }
            }
            if (ahead == k) {
                return p;
            }
        }
        return NONE;
    }

    /** CROSSED: the first pair, or how many there are. */
    private int crossed(boolean isFirstAsked) {
        findWhens();
        int many = 0;
        for (int p = 0; p < now.count; p++) {
            for (int q = p + 1; q < now.count; q++) {
                if (!isCrossed(p, q) && !isCrossed(q, p)) {
                    continue;
                }
                if (isFirstAsked) {
                    return 10 * p + q;
                }
                many++;
            }
        }
        return isFirstAsked ? NEVER : many;
    }

    private boolean isCrossed(int dearer, int other) {
        return now.things[dearer].worth > now.things[other].worth && whens[dearer] < whens[other];
    }

    /** Whether a THING is OUT behind n WEEKS, were what it has of WORTH, DEPTH or V another number now. */
    private boolean isOutWith(int thing, int which, int number, int n) {
        trial.become(now.things[thing]);
        trial.put(which, number);
        goWeeks(trial, n);
        return trial.isOut();
    }

    private int worthsOut(int thing, int n) {
        int many = 0;
        for (int worth = 0; worth <= MOST; worth++) {
            if (isOutWith(thing, WORTH, worth, n)) {
                many++;
            }
        }
        return many;
    }

    private int greatestWorthOut(int thing, int n) {
        for (int worth = MOST; worth >= 0; worth--) {
            if (isOutWith(thing, WORTH, worth, n)) {
                return worth;
            }
        }
        return NEVER;
    }

    private int less(int thing, int n) {
        int worth = now.things[thing].worth;
        for (int less = 0; less <= MOST; less++) {
            if (isOutWith(thing, WORTH, Math.max(worth - less, 0), n)) {
                return less;
            }
        }
        return NEVER;
    }

    private int moreToKeep(int thing, int n) {
        int depth = now.things[thing].depth;
        for (int more = 0; more <= MOST; more++) {
            if (!isOutWith(thing, DEPTH, Math.min(depth + more, MOST), n)) {
                return more;
            }
        }
        return NEVER;
    }

    private boolean isAllSeenSo(int thing, int which, int number) {
        Rows seen = now.seen;
        for (int i = 0; i < seen.size; i++) {
            boolean wasOut = seen.third[i] == 1;
            if (seen.first[i] == thing && isOutWith(thing, which, number, seen.second[i]) != wasOut) {
                return false;
            }
        }
        return true;
    }

    private int depthByPlan(int thing) {
        Rows plan = now.plan;
        Pass pass = holding();
        int week = now.week;
        trial.become(now.things[thing]);
        for (int i = 0; i < plan.size; i++) {
            boolean isOfThis = plan.second[i] == thing;
            switch (plan.first[i]) {
                case 0:
                    trial.goWeek(week, pass);
                    week++;
                    break;
                case 1:
                    trial.depth = isOfThis ? 0 : trial.depth;
                    break;
                case 2:
                    trial.worth = isOfThis ? Math.max(trial.worth - 10, 0) : trial.worth;
                    break;
                default:
                    trial.snowOn(10);
                    break;
            }
        }
        return trial.depth;
    }

    /** A THING; where none has come yet, the place of one. */
    private static final class Thing {
        private int number;
        private int kind = THING;
        private int v = 0;
        private int worth = 0;
        private int depth = 0;
        private final int[] row = new int[4];
        /** What the letters of a TEST stand for, in the order of Text.LETTERS. */
        private final int[] facts = new int[6];

        private Thing(int number) {
            this.number = number;
        }

        private void begin(int newKind, int newV, int newWorth, int newDepth) {
            kind = newKind;
            v = newV;
            worth = newWorth;
            depth = newDepth;
            for (int i = 0; i < row.length; i++) {
                row[i] = 0;
            }
        }

        private void become(Thing other) {
            number = other.number;
            kind = other.kind;
            v = other.v;
            worth = other.worth;
            depth = other.depth;
            System.arraycopy(other.row, 0, row, 0, row.length);
        }

        private void put(int which, int n) {
            if (which == WORTH) {
                worth = n;
            } else if (which == DEPTH) {
                depth = n;
            } else {
                v = n;
            }
        }

        private boolean isOut() {
            return depth == 0;
        }

        private int meltIn(int week, Pass pass) {
            facts[0] = number;
            facts[1] = kind;
            facts[2] = v;
            facts[3] = worth / 10;
            facts[4] = depth / 10;
            facts[5] = week % 10;
            int sum = 8 + pass.warmth(facts) - worth / 10;
            int alive = week < v ? 0 : sum;
            switch (kind) {
                case METAL:
                    return sum + 2;
                case CLOTH:
                    return sum / 2;
                case LIVING:
                    return alive;
                case KNIFE:
                    return week % 4 == 0 ? 2 * (sum + 2) : sum + 2;
                case LETTER:
                    return sum / 2 + v;
                case TOLD:
                    return alive + row[Math.floorMod(week, row.length)];
                default:
                    return sum;
            }
        }

        private void goWeek(int week, Pass pass) {
            if (isOut()) {
                return;
            }
            depth = Math.max(0, Math.min(MOST, depth - meltIn(week, pass)));
            if (week % 5 == 0) {
                snowOn(pass.snow);
            }
        }

        private void snowOn(int more) {
            if (!isOut()) {
                depth = Math.min(MOST, depth + more);
            }
        }
    }

    /** Rows told by hand, of up to three numbers each. */
    private static final class Rows {
        private static final int LONGEST = 10;

        private final int most;
        private final int[] first = new int[LONGEST];
        private final int[] second = new int[LONGEST];
        private final int[] third = new int[LONGEST];
        private int size = 0;

        private Rows(int most) {
            this.most = Math.min(most, LONGEST);
        }

        /** How many there are then, or FULL. */
        private int add(int a, int b, int c) {
            if (size >= most) {
                return FULL;
            }
            first[size] = a;
            second[size] = b;
            third[size] = c;
            size++;
            return size;
        }

        private void become(Rows other) {
            size = other.size;
            System.arraycopy(other.first, 0, first, 0, LONGEST);
            System.arraycopy(other.second, 0, second, 0, LONGEST);
            System.arraycopy(other.third, 0, third, 0, LONGEST);
        }
    }

    /** All that THE IMAGE keeps. */
    private static final class Winter {
        private final Thing[] things = new Thing[MOST_THINGS];
        private int count = 0;
        private int week = 0;
        /** Which PASS holds; -1: none. */
        private int holds = -1;
        private final Rows seen = new Rows(MOST_SEEN);
        private final Rows plan = new Rows(MOST_PLAN);
        private final Rows book = new Rows(MOST_BOOK);

        private Winter() {
            for (int p = 0; p < MOST_THINGS; p++) {
                things[p] = new Thing(p);
            }
        }

        private void become(Winter other) {
            for (int p = 0; p < MOST_THINGS; p++) {
                things[p].become(other.things[p]);
            }
            count = other.count;
            week = other.week;
            holds = other.holds;
            seen.become(other.seen);
            plan.become(other.plan);
            book.become(other.book);
        }
    }

    /** A PASS: its CLAUSES as steps, each E from its parts upwards, so that it takes no recursion to ask them. */
    private static final class Pass {
        /** Ends a CLAUSE; the other steps are named by the signs of THE TEXT: < = > ! & |. */
        private static final int CLAUSE = ';';

        private final int[] steps = new int[MOST_SIGNS];
        private final int[] letters = new int[MOST_SIGNS];
        private final int[] numbers = new int[MOST_SIGNS];
        private int size = 0;
        private int snow = 0;

        private void clear() {
            size = 0;
            snow = 0;
        }

        /** Every step has a sign of its own in THE TEXT, so there is room for all. */
        private void add(int step, int letter, int number) {
            if (size < MOST_SIGNS) {
                steps[size] = step;
                letters[size] = letter;
                numbers[size] = number;
                size++;
            }
        }

        /** The n of all warm whose E holds, less those of all frost. */
        private int warmth(int[] facts) {
            int warmth = 0;
            // what is found and not yet used, the newest in the lowest bit: never more than some eleven
            int found = 0;
            for (int i = 0; i < size; i++) {
                int letter = letters[i];
                int fact = letter >= 0 && letter < facts.length ? facts[letter] : 0;
                switch (steps[i]) {
                    case '<':
                        found = found << 1 | (fact < numbers[i] ? 1 : 0);
                        break;
                    case '=':
                        found = found << 1 | (fact == numbers[i] ? 1 : 0);
                        break;
                    case '>':
                        found = found << 1 | (fact > numbers[i] ? 1 : 0);
                        break;
                    case '!':
                        found = found ^ 1;
                        break;
                    case '&':
                        found = found >> 1 & (found | ~1);
                        break;
                    case '|':
                        found = found >> 1 | found & 1;
                        break;
                    default:
                        warmth += (found & 1) == 1 ? numbers[i] : 0;
                        found = 0;
                        break;
                }
            }
            return warmth;
        }
    }

    /** THE TEXT, and how it is read as a PASS. Where reading ends early, the place it has come to is the FAULT. */
    private static final class Text {
        private static final String LETTERS = "pkvwdm";

        private final byte[] signs = new byte[MOST_SIGNS];
        private int length = 0;
        private int at = 0;
        /** The latest number that was read. */
        private int number = 0;
        /** What is read into: only of use while readInto runs. */
        private Pass pass = new Pass();

        private void add(int sign) {
            if (length < MOST_SIGNS) {
                signs[length] = (byte) sign;
                length++;
            }
        }

        /** The FAULT, or -1. */
        private int readInto(Pass target) {
            pass = target;
            pass.clear();
            at = 0;
            for (int more = MOST_CLAUSES - 1; more >= 0; more--) {
                if (!takeClause()) {
                    return at;
                }
                if (at >= length) {
                    return -1;
                }
                if (more == 0 || !take(';')) {
                    return at;
                }
            }
            return at;
        }

        private boolean take(int sign) {
            if (at >= length || signs[at] != sign) {
                return false;
            }
            at++;
            return true;
        }

        private boolean takeWord(String word) {
            for (int i = 0; i < word.length(); i++) {
                if (!take(word.charAt(i))) {
                    return false;
                }
            }
            return true;
        }

        private boolean takeNumber() {
            int from = at;
            number = 0;
            while (at < length && at < from + 2 && signs[at] >= '0' && signs[at] <= '9') {
                number = 10 * number + signs[at] - '0';
                at++;
            }
            return at > from;
        }

        private boolean takeClause() {
            int first = at < length ? signs[at] : 0;
            String word = first == 'w' ? "warm " : first == 'f' ? "frost " : "snow ";
            if (!takeWord(word) || !takeNumber()) {
                return false;
            }
            if (first == 's') {
                pass.snow = number;
                return true;
            }
            int n = first == 'w' ? number : -number;
            if (!take(' ') || !takeEither(0)) {
                return false;
            }
            pass.add(Pass.CLAUSE, 0, n);
            return true;
        }

        /** E; within tells how many ( and ! are open around it. */
        private boolean takeEither(int within) {
            if (!takePart(within)) {
                return false;
            }
            boolean isOrOpen = false;
            while (at < length && (signs[at] == '&' || signs[at] == '|')) {
                int sign = signs[at];
                at++;
                if (sign == '|' && isOrOpen) {
                    pass.add('|', 0, 0);
                }
                isOrOpen = isOrOpen || sign == '|';
                if (!takePart(within)) {
                    return false;
                }
                if (sign == '&') {
                    pass.add('&', 0, 0);
                }
            }
            if (isOrOpen) {
                pass.add('|', 0, 0);
            }
            return true;
        }

        /** F. */
        private boolean takePart(int within) {
            if (within < MOST_WITHIN && take('(')) {
                return takeEither(within + 1) && take(')');
            }
            if (within < MOST_WITHIN && take('!')) {
                if (!takePart(within + 1)) {
                    return false;
                }
                pass.add('!', 0, 0);
                return true;
            }
            return takeTest();
        }

        private boolean takeTest() {
            int letter = at < length ? LETTERS.indexOf((char) signs[at]) : -1;
            if (letter < 0) {
                return false;
            }
            at++;
            int sign = at < length ? signs[at] : 0;
            if (sign != '<' && sign != '=' && sign != '>') {
                return false;
            }
            at++;
            if (!takeNumber()) {
                return false;
            }
            pass.add(sign, letter, number);
            return true;
        }
    }

    /** The ACTS of a THING, and THE TRACE of the latest one. */
    private static final class Acts {
        private static final int SINKS = 0, SHOWS = 1, TELLS = 2;
        private static final int MOST_KEPT = 20;
        /** Far above what any ACT needs: no body stands within more than six others. */
        private static final int DEEPEST = 40;
        /** For each KIND the bodies of sinks, shows, tells: its own, or those of the next KIND above. */
        private static final int[] BODIES = {
            10, 11, 12,
            10, 20, 12,
            30, 11, 12,
            10, 11, 40,
            50, 51, 12,
            30, 11, 60,
            71, 70, 40,
        };

        private final int[] bodies = new int[MOST_KEPT];
        private int ran = 0;
        private int kind = THING;
        private int number = 0;
        private int v = 0;

        private void forget() {
            ran = 0;
        }

        private int start(Thing thing, int act, int x) {
            kind = thing.kind;
            number = thing.number;
            v = thing.v;
            return run(kind, act, x, 0);
        }

        /** Runs the body that a KIND has for an ACT. */
        private int run(int from, int act, int x, int depth) {
            int place = 3 * from + act;
            if (depth > DEEPEST || place < 0 || place >= BODIES.length) {
                return 0;
            }
            int body = BODIES[place];
            if (ran < MOST_KEPT) {
                bodies[ran] = body;
            }
            ran++;
            return answer(body, x, depth + 1);
        }

        /** What a body answers: one that names super goes on from the KIND above the body's. */
        private int answer(int body, int x, int depth) {
            switch (body) {
                case 10:
                    return x + number;
                case 11:
                    return run(kind, SINKS, x, depth) - v;
                case 12:
                    return run(kind, SHOWS, x, depth) * 2;
                case 20:
                    return run(THING, SHOWS, x, depth) ^ 6;
                case 30:
                    return run(THING, SINKS, x * 3, depth);
                case 40:
                    return run(THING, TELLS, x, depth) + run(kind, SHOWS, 1, depth);
                case 50:
                    return -run(METAL, SINKS, x, depth);
                case 51:
                    return run(METAL, SHOWS, x + 1, depth);
                case 60:
                    return run(CLOTH, TELLS, x - number, depth);
                case 70:
                    return run(LIVING, SHOWS, x, depth) + run(LIVING, SINKS, 2, depth);
                case 71:
                    return run(LIVING, SINKS, x, depth) ^ v;
                default:
                    return 0;
            }
        }
    }

    /** A TAPE: its items as long numbers, whatever their sort. */
    private static final class Tape {
        private static final int NOTHING_HELD = -1;
        private static final int BYTES = 0, SHORTS = 1, INTS = 2, LONGS = 3, BOOLEANS = 4;

        private final long[] items = new long[MOST_ITEMS];
        private int sort = NOTHING_HELD;
        private int length = 0;

        private void begin(int newSort, int newLength) {
            sort = newSort;
            length = newLength;
            for (int i = 0; i < MOST_ITEMS; i++) {
                items[i] = 0;
            }
        }

        private boolean hasPlace(int i) {
            return i >= 0 && i < length && i < MOST_ITEMS;
        }

        private boolean hasPlaces(int from, int n) {
            return from >= 0 && n >= 0 && n <= length && from <= length - n;
        }

        private void put(int i, long v) {
            if (!hasPlace(i)) {
                return;
            }
            switch (sort) {
                case BYTES:
                    items[i] = (byte) v;
                    break;
                case SHORTS:
                    items[i] = (short) v;
                    break;
                case INTS:
                    items[i] = (int) v;
                    break;
                case BOOLEANS:
                    items[i] = v == 0 ? 0 : 1;
                    break;
                default:
                    items[i] = v;
                    break;
            }
        }
    }
}
