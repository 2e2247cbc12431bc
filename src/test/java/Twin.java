import java.util.ArrayList;
import java.util.Arrays;
import java.util.List;
import java.util.regex.Matcher;
import java.util.regex.Pattern;

/**
 * A second ThawGives, written from the document alone and as unlike the first as can be: it copies all there is to
 * look ahead, reads a PASS anew from its text each time, and finds a FAULT by asking a pattern sign by sign.
 */
final class Twin {
    private static final String[] PARENTS = {"", "0", "0", "0", "10", "20", "30"};
    private static final Pattern PASS = Pattern.compile(passPattern());
    private static final String[][] BODIES = {
        {"10", "11", "12"}, {"", "20", ""}, {"30", "", ""}, {"", "", "40"}, {"50", "51", ""}, {"", "", "60"},
        {"71", "70", ""},
    };

    private static final class Lying {
        int kind;
        int v;
        int worth;
        int depth;
        int[] row = new int[4];

        Lying copy() {
            Lying copy = new Lying();
            copy.kind = kind;
            copy.v = v;
            copy.worth = worth;
            copy.depth = depth;
            copy.row = row.clone();
            return copy;
        }
    }

    private static final class All {
        List<Lying> things = new ArrayList<>();
        int week = 0;
        String holds = "";
        List<int[]> seen = new ArrayList<>();
        List<int[]> plan = new ArrayList<>();
        List<int[]> book = new ArrayList<>();

        All copy() {
            All copy = new All();
            for (Lying one : things) {
                copy.things.add(one.copy());
            }
            copy.week = week;
            copy.holds = holds;
            copy.seen = new ArrayList<>(seen);
            copy.plan = new ArrayList<>(plan);
            copy.book = new ArrayList<>(book);
            return copy;
        }

        int outs() {
            int bits = 0;
            for (int p = 0; p < things.size(); p++) {
                bits += things.get(p).depth == 0 ? 1 << p : 0;
            }
            return bits;
        }

        int together() {
            int together = 0;
            for (Lying one : things) {
                together += one.depth;
            }
            return together;
        }
    }

    private All all = new All();
    private All image = null;
    private String text = "";
    private int passes = 0;
    private List<String> trace = new ArrayList<>();
    private final long[][] tapes = new long[6][];
    private final int[] sorts = {-1, -1, -1, -1, -1, -1};

    // ---- passes

    private static String passPattern() {
        String test = "[pkvwdm][<=>][0-9]{1,2}";
        String part = test;
        String either = chain(chain(part, "&"), "[|]");
        for (int level = 0; level < 4; level++) {
            part = "(?:" + test + "|!" + part + "|[(]" + either + "[)])";
            either = chain(chain(part, "&"), "[|]");
        }
        String clause = "(?:(?:warm|frost) [0-9]{1,2} " + either + "|snow [0-9]{1,2})";
        return clause + "(?:;" + clause + "){0,9}";
    }

    private static String chain(String part, String sign) {
        return part + "(?:" + sign + part + ")*";
    }

    /** The place of the first sign with which no PASS begins so, or the text's end; -1 for a PASS. */
    static int faultOf(String text) {
        for (int end = 0; end <= text.length(); end++) {
            Matcher matcher = PASS.matcher(text.substring(0, end));
            boolean isWhole = matcher.matches();
            if (!isWhole && !matcher.hitEnd()) {
                return end - 1;
            }
            if (end == text.length()) {
                return isWhole ? -1 : end;
            }
        }
        throw new IllegalStateException();
    }

    private static int snowOf(String pass) {
        int snow = 0;
        for (String clause : pass.split(";")) {
            if (clause.startsWith("snow ")) {
                snow = Integer.parseInt(clause.substring(5));
            }
        }
        return snow;
    }

    private static boolean holds(String e, int p, Lying one, int week) {
        for (String sign : new String[] {"|", "&"}) {
            int open = 0;
            for (int i = 0; i < e.length(); i++) {
                open += e.charAt(i) == '(' ? 1 : e.charAt(i) == ')' ? -1 : 0;
                if (open == 0 && e.startsWith(sign, i)) {
                    boolean left = holds(e.substring(0, i), p, one, week);
                    boolean right = holds(e.substring(i + 1), p, one, week);
                    return sign.equals("|") ? left || right : left && right;
                }
            }
        }
        if (e.startsWith("!")) {
            return !holds(e.substring(1), p, one, week);
        }
        if (e.startsWith("(")) {
            return holds(e.substring(1, e.length() - 1), p, one, week);
        }
        String ten = String.format("%03d", one.worth).substring(1, 2);
        int value = switch (e.charAt(0)) {
            case 'p' -> p;
            case 'k' -> one.kind;
            case 'v' -> one.v;
            case 'w' -> Integer.parseInt(ten);
            case 'd' -> (one.depth - one.depth % 10) / 10;
            default -> week - week / 10 * 10;
        };
        int compared = Integer.compare(value, Integer.parseInt(e.substring(2)));
        return compared == "<=>".indexOf(e.charAt(1)) - 1;
    }

    private static int sumOf(String pass, int p, Lying one, int week) {
        int sum = 8 - one.worth / 10;
        for (String clause : pass.split(";")) {
            String[] parts = clause.split(" ");
            if (parts.length == 3 && holds(parts[2], p, one, week)) {
                int n = Integer.parseInt(parts[1]);
                sum += parts[0].equals("warm") ? n : -n;
            }
        }
        return sum;
    }

    private static int meltOf(String pass, int p, Lying one, int week) {
        return meltAs(one.kind, sumOf(pass, p, one, week), one, week);
    }

    private static int meltAs(int kind, int sum, Lying one, int week) {
        return switch (kind) {
            case 0 -> sum;
            case 1 -> sum + 2;
            case 2 -> (int) (sum / 2.0);
            case 3 -> week < one.v ? 0 : sum;
            case 4 -> meltAs(1, sum, one, week) * (week / 4 * 4 == week ? 2 : 1);
            case 5 -> meltAs(2, sum, one, week) + one.v;
            default -> meltAs(3, sum, one, week) + one.row[week % 4];
        };
    }

    // ---- weeks

    private static void goWeek(All all) {
        int snow = all.week % 5 == 0 ? snowOf(all.holds) : 0;
        for (int p = 0; p < all.things.size(); p++) {
            Lying one = all.things.get(p);
            if (one.depth > 0) {
                int left = one.depth - meltOf(all.holds, p, one, all.week);
                one.depth = left < 0 ? 0 : left > 99 ? 99 : left;
            }
            if (one.depth > 0) {
                one.depth = one.depth + snow > 99 ? 99 : one.depth + snow;
            }
        }
        all.week++;
    }

    private static All behind(All from, int n) {
        All then = from.copy();
        for (int i = 0; i < n; i++) {
            goWeek(then);
        }
        return then;
    }

    private int whenOf(int p) {
        All then = all.copy();
        for (int n = 0; n <= 60; n++) {
            if (then.things.get(p).depth == 0) {
                return n;
            }
            goWeek(then);
        }
        return -5;
    }

    /** Everything but one THING goes, so that it is quick; its number stays. */
    private boolean isOut(int p, int which, int number, int n) {
        All then = new All();
        then.week = all.week;
        then.holds = all.holds;
        for (int q = 0; q <= p; q++) {
            then.things.add(q == p ? all.things.get(p).copy() : new Lying());
        }
        Lying one = then.things.get(p);
        if (which == 0) {
            one.worth = number;
        } else if (which == 1) {
            one.depth = number;
        } else if (which == 2) {
            one.v = number;
        }
        return behind(then, n).things.get(p).depth == 0;
    }

    private boolean is(int p) {
        return p >= 0 && p < all.things.size();
    }

    private static boolean in(int n, int least, int most) {
        return n >= least && n <= most;
    }

    // ---- the calls

    int thing(int kind, int v, int worth, int depth) {
        if (!in(kind, 0, 6)) {
            return -1;
        }
        if (!in(v, 0, 9) || !in(worth, 0, 99) || !in(depth, 0, 99)) {
            return -2;
        }
        if (all.things.size() == 6) {
            return -4;
        }
        Lying one = new Lying();
        one.kind = kind;
        one.v = v;
        one.worth = worth;
        one.depth = depth;
        all.things.add(one);
        return all.things.size() - 1;
    }

    int of(int p, int what) {
        if (!is(p) || !in(what, 0, 5)) {
            return -10001;
        }
        Lying one = all.things.get(p);
        return switch (what) {
            case 0 -> one.kind;
            case 1 -> one.v;
            case 2 -> one.worth;
            case 3 -> one.depth;
            case 4 -> meltOf(all.holds, p, one, all.week);
            default -> whenOf(p);
        };
    }

    int set(int p, int what, int n) {
        if (!is(p) || !in(what, 0, 1)) {
            return -1;
        }
        if (!in(n, 0, 99)) {
            return -2;
        }
        Lying one = all.things.get(p);
        int was;
        if (what == 0) {
            was = one.worth;
            one.worth = n;
        } else {
            was = one.depth;
            one.depth = n;
        }
        return was;
    }

    int melts(int p, int n) {
        if (!is(p)) {
            return -10001;
        }
        return in(n, 0, 60) ? meltOf(all.holds, p, all.things.get(p), all.week + n) : -10002;
    }

    int row(int p, int part, int n) {
        if (!is(p) || !in(part, 0, 3)) {
            return -1;
        }
        if (!in(n, 0, 9)) {
            return -2;
        }
        if (all.things.get(p).kind != 6) {
            return -3;
        }
        int was = all.things.get(p).row[part];
        all.things.get(p).row[part] = n;
        return was;
    }

    int feed(int sign) {
        if (!in(sign, 0, 127)) {
            return -2;
        }
        if (text.length() == 100) {
            return -4;
        }
        text += (char) sign;
        return text.length();
    }

    int col() {
        if (passes == 6) {
            return -4;
        }
        String read = text;
        text = "";
        int fault = faultOf(read);
        if (fault >= 0) {
            return -10 - fault;
        }
        all.holds = read;
        return passes++;
    }

    int told(int what) {
        return switch (what) {
            case 0 -> all.week;
            case 1 -> snowOf(all.holds);
            case 2 -> all.outs();
            case 3 -> all.together();
            case 4 -> crossed().size();
            case 5 -> crossed().isEmpty() ? -5 : crossed().get(0);
            default -> in(what - 10, 0, all.things.size() - 1) ? order().get(what - 10) : -1;
        };
    }

    private List<Integer> order() {
        List<Integer> order = new ArrayList<>();
        for (int p = 0; p < all.things.size(); p++) {
            order.add(p);
        }
        int[] keys = keys();
        order.sort((p, q) -> Integer.compare(keys[p], keys[q]));
        return order;
    }

    private int[] keys() {
        int[] keys = new int[all.things.size()];
        for (int p = 0; p < keys.length; p++) {
            keys[p] = whenOf(p) == -5 ? 1000 : whenOf(p);
        }
        return keys;
    }

    private List<Integer> crossed() {
        List<Integer> pairs = new ArrayList<>();
        int[] keys = keys();
        for (int p = 0; p < keys.length; p++) {
            for (int q = p + 1; q < keys.length; q++) {
                int byWorth = Integer.compare(all.things.get(p).worth, all.things.get(q).worth);
                if (byWorth * Integer.compare(keys[p], keys[q]) < 0) {
                    pairs.add(10 * p + q);
                }
            }
        }
        return pairs;
    }

    int pass(int n) {
        if (!in(n, 0, 60)) {
            return -2;
        }
        if (all.week + n > 9999) {
            return -3;
        }
        all = behind(all, n);
        return all.week;
    }

    int on(int n, int what) {
        if (what != 0 && !(what >= 10 && is(what - 10))) {
            return -1;
        }
        if (!in(n, 0, 60)) {
            return -2;
        }
        All then = behind(all, n);
        return what == 0 ? then.outs() : then.things.get(what - 10).depth;
    }

    int by(int p, int n, int what) {
        if (!is(p) || !in(what, 0, 1)) {
            return -1;
        }
        if (!in(n, 0, 30)) {
            return -2;
        }
        int many = 0;
        int greatest = -5;
        for (int worth = 0; worth < 100; worth++) {
            if (isOut(p, 0, worth, n)) {
                many++;
                greatest = worth;
            }
        }
        return what == 0 ? many : greatest;
    }

    int need(int p, int n, int what) {
        if (!is(p) || !in(what, 0, 1)) {
            return -1;
        }
        if (!in(n, 0, 30)) {
            return -2;
        }
        Lying one = all.things.get(p);
        for (int x = 0; x < 100; x++) {
            boolean isSo = what == 0
                ? isOut(p, 0, one.worth < x ? 0 : one.worth - x, n)
                : !isOut(p, 1, one.depth + x > 99 ? 99 : one.depth + x, n);
            if (isSo) {
                return x;
            }
        }
        return -5;
    }

    int see(int p, int n, boolean isOut) {
        if (p == -1) {
            all.seen.clear();
            return 0;
        }
        if (!is(p)) {
            return -1;
        }
        if (!in(n, 0, 20)) {
            return -2;
        }
        return add(all.seen, 5, p, n, isOut ? 1 : 0);
    }

    private static int add(List<int[]> rows, int most, int... row) {
        if (rows.size() == most) {
            return -4;
        }
        rows.add(row);
        return rows.size();
    }

    int can(int p, int which, int what) {
        if (!is(p) || !in(which, 0, 2) || !in(what, 0, 1)) {
            return -1;
        }
        List<Integer> so = new ArrayList<>();
        for (int number = 0; number < (which == 2 ? 10 : 100); number++) {
            boolean isSo = true;
            for (int[] row : all.seen) {
                isSo = isSo && (row[0] != p || isOut(p, which, number, row[1]) == (row[2] == 1));
            }
            if (isSo) {
                so.add(number);
            }
        }
        return what == 0 ? so.size() : so.isEmpty() ? -5 : so.get(0);
    }

    long odds(int p, int n, int part) {
        if (!is(p) || !in(n, 0, 30) || !in(part, 0, 1)) {
            return Long.MIN_VALUE;
        }
        return lowest(by(p, n, 0), 100, part);
    }

    long mean(int n, int part) {
        if (!in(n, 0, 60) || !in(part, 0, 1) || all.things.isEmpty()) {
            return Long.MIN_VALUE;
        }
        return lowest(behind(all, n).together(), all.things.size(), part);
    }

    private static long lowest(int above, int below, int part) {
        int a = above;
        int b = below;
        while (b != 0) {
            int rest = a % b;
            a = b;
            b = rest;
        }
        return (part == 0 ? above : below) / a;
    }

    int plan(int what, int p) {
        if (what == -1) {
            all.plan.clear();
            return 0;
        }
        if (!in(what, 0, 3) || (what == 1 || what == 2) && !is(p)) {
            return -1;
        }
        return add(all.plan, 10, what, p);
    }

    int ends(int what) {
        if (!in(what, 0, 1)) {
            return -1;
        }
        All then = all.copy();
        for (int[] row : all.plan) {
            switch (row[0]) {
                case 0 -> goWeek(then);
                case 1 -> then.things.get(row[1]).depth = 0;
                case 2 -> then.things.get(row[1]).worth = Math.max(0, then.things.get(row[1]).worth - 10);
                default -> {
                    for (Lying one : then.things) {
                        one.depth = one.depth == 0 ? 0 : Math.min(99, one.depth + 10);
                    }
                }
            }
        }
        return what == 0 ? then.together() : then.outs();
    }

    int book(int p, int depth) {
        if (p == -1) {
            all.book.clear();
            return 0;
        }
        if (!is(p)) {
            return -1;
        }
        if (!in(depth, 0, 99)) {
            return -2;
        }
        return add(all.book, 8, p, depth);
    }

    int looked() {
        for (int i = 0; i < all.book.size(); i++) {
            if (all.things.get(all.book.get(i)[0]).depth != all.book.get(i)[1]) {
                return i;
            }
        }
        return -5;
    }

    int judge(int tape, int i) {
        if (!in(tape, 0, 5)) {
            return -1;
        }
        if (sorts[tape] > 0) {
            return -12;
        }
        for (int p = 0; p < all.things.size(); p++) {
            if (tapes[tape] == null || i < 0 || (long) i + p >= tapes[tape].length) {
                return 100 + p;
            }
            if (tapes[tape][i + p] != all.things.get(p).depth) {
                return p;
            }
        }
        return -5;
    }

    int image() {
        image = all.copy();
        return all.things.size();
    }

    int undo() {
        if (image == null) {
            return -3;
        }
        all = image.copy();
        return all.things.size();
    }

    int act(int p, int act, int x) {
        trace = new ArrayList<>();
        return is(p) && in(act, 0, 2) ? virtual(p, act, x) : 0;
    }

    private int virtual(int p, int act, int x) {
        return from(all.things.get(p).kind + PARENTS[all.things.get(p).kind], p, act, x);
    }

    /** The KINDS of the chain are told from the least on, each by its number. */
    private int from(String chain, int p, int act, int x) {
        int kind = chain.charAt(0) - '0';
        String above = chain.substring(1);
        String body = BODIES[kind][act];
        if (body.isEmpty()) {
            return from(above, p, act, x);
        }
        trace.add(body);
        int v = all.things.get(p).v;
        return switch (body) {
            case "10" -> x + p;
            case "11" -> virtual(p, 0, x) - v;
            case "12" -> virtual(p, 1, x) * 2;
            case "20" -> from(above, p, 1, x) ^ 6;
            case "30" -> from(above, p, 0, x * 3);
            case "40" -> from(above, p, 2, x) + virtual(p, 1, 1);
            case "50" -> -from(above, p, 0, x);
            case "51" -> from(above, p, 1, x + 1);
            case "60" -> from(above, p, 2, x - p);
            case "70" -> from(above, p, 1, x) + from(above, p, 0, 2);
            default -> from(above, p, 0, x) ^ v;
        };
    }

    int trace(int i) {
        return i >= 0 && i < Math.min(20, trace.size()) ? Integer.parseInt(trace.get(i)) : -1;
    }

    int taken(int p, int k) {
        if (!in(k, 0, 6)) {
            return -2;
        }
        if (!is(p)) {
            return -11;
        }
        int kind = all.things.get(p).kind;
        return (kind + PARENTS[kind]).indexOf('0' + k) >= 0 ? kind : -12;
    }

    int count(int what) {
        int[] counts = {
            all.things.size(), passes, all.seen.size(), all.plan.size(), all.book.size(), text.length(), trace.size(),
        };
        return in(what, 0, 6) ? counts[what] : -2;
    }

    int tape(int tape, int sort, int n) {
        if (!in(tape, 0, 5)) {
            return -1;
        }
        if (!in(sort, -1, 4) || sort >= 0 && n > 60) {
            return -2;
        }
        if (sort >= 0 && n < 0) {
            return -14;
        }
        sorts[tape] = sort;
        tapes[tape] = sort < 0 ? null : new long[n];
        return 1;
    }

    int item(int tape, int i, long v) {
        if (!in(tape, 0, 5)) {
            return -1;
        }
        if (tapes[tape] == null) {
            return -11;
        }
        if (!in(i, 0, tapes[tape].length - 1)) {
            return -13;
        }
        int unused = new int[] {56, 48, 32, 0, 0}[sorts[tape]];
        tapes[tape][i] = sorts[tape] == 4 ? Long.signum(v) * Long.signum(v) : v << unused >> unused;
        return 1;
    }

    long read(int tape, int i) {
        boolean isThere = in(tape, 0, 5) && tapes[tape] != null && in(i, 0, tapes[tape].length - 1);
        return isThere ? tapes[tape][i] : Long.MIN_VALUE;
    }

    int shift(int tape, int i, int other, int j, int n) {
        if (!in(tape, 0, 5) || !in(other, 0, 5)) {
            return -1;
        }
        if (tapes[tape] == null || tapes[other] == null) {
            return -11;
        }
        if (sorts[tape] != sorts[other]) {
            return -12;
        }
        if (n < 0 || i < 0 || j < 0 || (long) i + n > tapes[tape].length || (long) j + n > tapes[other].length) {
            return -13;
        }
        long[] moved = Arrays.copyOfRange(tapes[tape], i, i + n);
        for (int k = 0; k < n; k++) {
            tapes[other][j + k] = moved[k];
        }
        return n;
    }
}
