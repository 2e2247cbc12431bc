import java.util.Random;

/** Long runs of calls, drawn with fixed seeds, on ThawGives and on its Twin: each must answer as the other does. */
public final class TwinTest {
    private static final int RUNS = 400;
    /** No call begins behind so many: the longest is a TEXT's, of some hundred, and 512 are promised. */
    private static final int CALLS = 400;
    private static final int LONGEST_TEXT = 103;
    private static final int TEXTS = 4000;
    private static final Check CHECK = new Check();

    private final Random random;
    private final ThawGives x = new ThawGives();
    private final Twin twin = new Twin();
    private int asked = 0;

    private TwinTest(long seed) {
        random = new Random(seed);
    }

    public static void main(String[] args) {
        for (int run = 0; run < RUNS; run++) {
            TwinTest test = new TwinTest(run);
            // some runs begin near the last WEEK, some with all six THINGS
            for (int i = 0; i < 166 && run % 8 == 7; i++) {
                test.weeks("run " + run, 60);
            }
            for (int i = 0; i < run % 7; i++) {
                test.thing();
            }
            while (test.asked < CALLS) {
                test.call(run);
            }
        }
        for (int run = 0; run < TEXTS; run++) {
            new TwinTest(run).text();
        }
        CHECK.end();
    }

    /** One text, spoiled at up to two places: whether it is a PASS, or where its FAULT is. */
    private void text() {
        StringBuilder text = new StringBuilder(clauses());
        for (int wrongs = upTo(2); wrongs > 0 && text.length() > 0; wrongs--) {
            spoil(text);
        }
        text.setLength(Math.min(text.length(), 100));
        int fault = Twin.faultOf(text.toString());
        due("col of '" + text + "'", Check.col(x, text.toString()), fault < 0 ? 0 : -10 - fault);
    }

    private int upTo(int most) {
        return random.nextInt(most + 1);
    }

    /** A number from 0 to most, now and then one beside that or far off. */
    private int near(int most) {
        int drawn = upTo(29);
        if (drawn == 0) {
            return -1;
        }
        if (drawn == 1) {
            return most + 1;
        }
        if (drawn == 2 && upTo(3) == 0) {
            return upTo(1) == 0 ? Integer.MAX_VALUE : Integer.MIN_VALUE;
        }
        return upTo(most);
    }

    private void due(String call, long got, long want) {
        asked++;
        CHECK.due(call, got, want);
    }

    private void thing() {
        int kind = near(6);
        int v = near(9);
        int worth = near(99);
        int depth = upTo(5) == 0 ? 0 : near(99);
        due("thing", x.thing(kind, v, worth, depth), twin.thing(kind, v, worth, depth));
    }

    private void weeks(String name, int n) {
        due(name + " pass", x.pass(n), twin.pass(n));
    }

    private void call(int run) {
        String name = "run " + run;
        int drawn = upTo(99);
        if (drawn < 60) {
            callOfThings(name, drawn);
        } else if (drawn < 84) {
            callOfOthers(name, drawn - 60);
        } else {
            callOfTapes(name, drawn - 84);
        }
    }

    private void callOfThings(String name, int drawn) {
        int p = near(5);
        int n = near(30);
        int what = near(1);
        switch (drawn / 3) {
            case 0 -> thing();
            case 1, 2 -> {
                int of = near(5);
                due(name + " of", x.of(p, of), twin.of(p, of));
            }
            case 3 -> {
                int to = near(99);
                due(name + " set", x.set(p, what, to), twin.set(p, what, to));
            }
            case 4 -> due(name + " melts", x.melts(p, n), twin.melts(p, n));
            case 5 -> {
                int part = near(3);
                int to = near(9);
                due(name + " row", x.row(p, part, to), twin.row(p, part, to));
            }
            case 6, 7 -> {
                int told = near(15);
                due(name + " told " + told, x.told(told), twin.told(told));
            }
            case 8 -> {
                weeks(name, upTo(3) == 0 ? near(60) : near(3));
            }
            case 9 -> {
                int weeks = near(60);
                int on = upTo(2) == 0 ? 0 : near(15);
                due(name + " on", x.on(weeks, on), twin.on(weeks, on));
            }
            case 10 -> due(name + " by", x.by(p, n, what), twin.by(p, n, what));
            case 11, 12 -> due(name + " need", x.need(p, n, what), twin.need(p, n, what));
            case 13, 14 -> {
                int weeks = near(20);
                boolean isOut = random.nextBoolean();
                int seen = upTo(3) == 0 ? -1 : p;
                due(name + " see", x.see(seen, weeks, isOut), twin.see(seen, weeks, isOut));
            }
            case 15, 16 -> {
                int which = near(2);
                due(name + " can", x.can(p, which, what), twin.can(p, which, what));
            }
            case 17 -> due(name + " odds", x.odds(p, n, what), twin.odds(p, n, what));
            case 18 -> {
                int weeks = near(60);
                due(name + " mean", x.mean(weeks, what), twin.mean(weeks, what));
            }
            default -> pass(name);
        }
    }

    private void callOfOthers(String name, int drawn) {
        int p = near(5);
        int what = near(1);
        switch (drawn / 2) {
            case 0, 1 -> {
                int goes = upTo(11) == 0 ? -1 : near(3);
                due(name + " plan", x.plan(goes, p), twin.plan(goes, p));
            }
            case 2 -> due(name + " ends", x.ends(what), twin.ends(what));
            case 3 -> {
                int looked = upTo(5) == 0 ? -1 : p;
                int depth = upTo(1) == 0 ? Math.max(0, twin.of(p, 3)) : near(99);
                due(name + " book", x.book(looked, depth), twin.book(looked, depth));
            }
            case 4 -> due(name + " looked", x.looked(), twin.looked());
            case 5 -> {
                if (upTo(1) == 0) {
                    due(name + " image", x.image(), twin.image());
                } else {
                    due(name + " undo", x.undo(), twin.undo());
                }
            }
            case 6, 7, 8 -> {
                int act = near(2);
                int with = upTo(3) == 0 ? random.nextInt() : upTo(20) - 10;
                due(name + " act", x.act(p, act, with), twin.act(p, act, with));
                due(name + " bodies", x.count(6), twin.count(6));
                for (int i = 0; i < 13; i++) {
                    due(name + " trace " + i, x.trace(i), twin.trace(i));
                }
            }
            case 9 -> {
                int k = near(6);
                due(name + " taken", x.taken(p, k), twin.taken(p, k));
            }
            default -> {
                int count = near(6);
                due(name + " count " + count, x.count(count), twin.count(count));
            }
        }
    }

    private void callOfTapes(String name, int drawn) {
        int tape = near(upTo(1) == 0 ? 1 : 5);
        int i = near(9);
        switch (drawn / 2) {
            case 0 -> {
                int sort = upTo(2) == 0 ? near(4) : 0;
                int n = upTo(3) == 0 ? near(60) : near(12);
                due(name + " tape", x.tape(tape, sort, n), twin.tape(tape, sort, n));
            }
            case 1, 2 -> {
                long v = upTo(2) == 0 ? random.nextLong() : upTo(2) - 1;
                due(name + " item", x.item(tape, i, v), twin.item(tape, i, v));
            }
            case 3 -> due(name + " read", x.read(tape, i), twin.read(tape, i));
            case 4, 5 -> {
                int other = near(upTo(1) == 0 ? 1 : 5);
                int j = near(9);
                int n = near(6);
                due(name + " shift", x.shift(tape, i, other, j, n), twin.shift(tape, i, other, j, n));
                for (int k = 0; k < 12; k++) {
                    due(name + " read " + k, x.read(other, k), twin.read(other, k));
                }
            }
            case 6 -> due(name + " judge", x.judge(tape, i), twin.judge(tape, i));
            default -> {
                // the DEPTH of all, so that what is judged is often so
                for (int p = 0; p < 6; p++) {
                    long v = upTo(19) == 0 ? 5 : twin.of(p, 3);
                    due(name + " item", x.item(tape, i + p, v), twin.item(tape, i + p, v));
                }
                due(name + " judge", x.judge(tape, i), twin.judge(tape, i));
            }
        }
    }

    private void pass(String name) {
        if (twin.count(1) > 4 && upTo(9) != 0) {
            return;
        }
        StringBuilder text = new StringBuilder(clauses());
        int wrongs = upTo(2) == 0 ? upTo(2) : 0;
        for (int i = 0; i < wrongs && text.length() > 0; i++) {
            spoil(text);
        }
        text.setLength(Math.min(text.length(), LONGEST_TEXT));
        for (int i = 0; i < text.length(); i++) {
            due(name + " feed", x.feed(text.charAt(i)), twin.feed(text.charAt(i)));
        }
        due(name + " col of " + text, x.col(), twin.col());
    }

    private void spoil(StringBuilder text) {
        int place = upTo(text.length() - 1);
        String signs = "()!&|;<=> 019pkvwdmx";
        switch (upTo(3)) {
            case 0 -> text.setLength(place);
            case 1 -> text.deleteCharAt(place);
            case 2 -> text.setCharAt(place, signs.charAt(upTo(signs.length() - 1)));
            default -> text.insert(place, signs.charAt(upTo(signs.length() - 1)));
        }
    }

    private String clauses() {
        int many = upTo(4) == 0 ? upTo(11) : 1 + upTo(2);
        StringBuilder text = new StringBuilder();
        for (int i = 0; i < many; i++) {
            if (i > 0) {
                text.append(';');
            }
            int n = upTo(1) == 0 ? upTo(9) : upTo(99);
            switch (upTo(2)) {
                case 0 -> text.append("snow ").append(n);
                case 1 -> text.append("warm ").append(n).append(' ').append(either(5));
                default -> text.append("frost ").append(n).append(' ').append(either(5));
            }
        }
        return text.toString();
    }

    private String either(int level) {
        StringBuilder text = new StringBuilder(part(level));
        while (upTo(2) == 0) {
            text.append(upTo(1) == 0 ? '|' : '&').append(part(level));
        }
        return text.toString();
    }

    private String part(int level) {
        int drawn = level > 0 ? upTo(5) : 5;
        if (drawn == 0) {
            return "(" + either(level - 1) + ")";
        }
        if (drawn == 1) {
            return "!" + part(level - 1);
        }
        char letter = "pkvwdm".charAt(upTo(5));
        char sign = "<=>".charAt(upTo(2));
        return "" + letter + sign + (upTo(9) == 0 ? upTo(99) : upTo(9));
    }
}
