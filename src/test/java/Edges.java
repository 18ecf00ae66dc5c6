import java.util.ArrayList;
import java.util.List;
import java.util.function.IntToLongFunction;
import java.util.function.Predicate;
import java.util.function.Supplier;

/** What the edge tests share: sentences of the document with their answers, nets made by hand, and refused calls. */
final class Edges {
    static final int LOW = Integer.MIN_VALUE;
    static final int HIGH = Integer.MAX_VALUE;
    static final int NONE = BreakerRows.NONE;

    private static String sentence = "";
    private static int sentences = 0;
    private static int asked = 0;
    private static int wrong = 0;

    private Edges() {
    }

    /** A sentence of the document, and the test that would fail if it were broken. */
    static void says(String words, Runnable test) {
        sentence = words;
        sentences++;
        int before = asked;
        test.run();
        if (asked == before) {
            wrong++;
            System.out.println("'" + words + "' asks nothing");
        }
    }

    static void due(long got, long want) {
        asked++;
        if (got != want) {
            wrong++;
            System.out.println("'" + sentence + "' at " + place() + ": got " + got + ", due is " + want);
        }
    }

    static void yes(boolean got) {
        due(got ? 1 : 0, 1);
    }

    static void no(boolean got) {
        due(got ? 1 : 0, 0);
    }

    static void none(long got) {
        due(got, NONE);
    }

    static void end() {
        System.out.println(sentences + " sentences, " + asked + " answers asked, " + wrong + " not as due");
        if (wrong != 0) {
            System.exit(1);
        }
    }

    /** The line of the test, not of a helper here. */
    private static String place() {
        for (StackTraceElement at : new Throwable().getStackTrace()) {
            if (!at.getClassName().equals("Edges")) {
                return at.getFileName() + ":" + at.getLineNumber();
            }
        }
        return "?";
    }

    /** Numbers outside a range: its neighbours, those that a shift or a narrower type would wrap into it, the ends. */
    static int[] outside(int low, int high) {
        int[] all = {LOW, LOW + 1, LOW + low, LOW + high, low - 65536, low - 256, low - 32, low - 1, high + 1, low + 32,
            high + 32, low + 256, low + 65536, HIGH - high, HIGH - 1, HIGH};
        List<Integer> out = new ArrayList<>();
        for (int x : all) {
            if (x < low || x > high) {
                out.add(x);
            }
        }
        return out.stream().mapToInt(Integer::intValue).toArray();
    }

    /** All that can be asked, as one text; fit() and change() at its end. Some 300 calls. */
    static String whole(BreakerRows x) {
        StringBuilder all = new StringBuilder();
        add(all, "about", -1, 9, what -> x.about(what));
        for (int k = 0; k <= 5; k++) {
            int at = k;
            add(all, "lineOf " + k, -1, 10, what -> x.lineOf(at, what));
            add(all, "ran " + k, -1, 2, what -> x.ran(at, what));
            add(all, "waits " + k, 1, 4, line -> x.waits(at, line, 3, 4));
            add(all, "arc " + k, 0, 2, f -> x.arc(at, 16, f));
            add(all, "sum " + k, 0, 1, s -> x.fault(at, s, 1, 0));
            add(all, "current " + k, 0, 1, s -> x.fault(at, s, 1, 1));
        }
        add(all, "right", 0, 3, what -> x.right(what));
        add(all, "step", 0, 4, i -> x.step(i));
        add(all, "worst", 0, 0, i -> x.worst());
        add(all, "growth", 0, 0, i -> x.growth());
        add(all, "change", 0, 0, i -> x.change());
        add(all, "step", 0, 4, i -> x.step(i));
        add(all, "fit", 0, 0, i -> x.fit());
        add(all, "dial", 1, 4, k -> x.lineOf(k, 6));
        add(all, "ran", 0, 4, k -> x.ran(k, 1));
        return all.toString();
    }

    private static void add(StringBuilder all, String name, int from, int to, IntToLongFunction ask) {
        all.append(name).append(':');
        for (int i = from; i <= to; i++) {
            all.append(' ').append(ask.applyAsLong(i));
        }
        all.append('\n');
    }

    /** The call is refused by a net that has something of everything. */
    static void refused(Predicate<BreakerRows> call) {
        refused(Edges::rich, call);
    }

    /** The call is refused, and then all answers are those of an object that never heard it. */
    static void refused(Supplier<BreakerRows> maker, Predicate<BreakerRows> call) {
        BreakerRows plain = maker.get();
        BreakerRows called = maker.get();
        yes(call.test(called));
        String want = whole(plain);
        String got = whole(called);
        yes(got.equals(want));
        if (!got.equals(want)) {
            String[] wants = want.split("\n");
            String[] gots = got.split("\n");
            for (int i = 0; i < wants.length && i < gots.length; i++) {
                if (!wants[i].equals(gots[i])) {
                    System.out.println("  " + gots[i] + " instead of " + wants[i]);
                }
            }
        }
    }

    /**
     * Something of everything: LINES 1 to 4 (2 and 3 from KNOT 1, 4 from KNOT 2, which has no BREAKER), LOADS, one that
     * FAILS, all is RIGHT, a GOAL that another ORDER leads to than the one that is kept, and a run.
     */
    static BreakerRows rich() {
        BreakerRows x = new BreakerRows();
        x.source(2000, 2);
        x.line(0, 3);
        x.line(1, 4);
        x.line(1, 5);
        x.line(2, 6);
        x.corner(0, 10, 30);
        x.corner(0, 20, 10);
        x.corner(0, 50, 2);
        x.corner(1, 15, 7);
        x.breaker(1, 0, 5, 10);
        x.breaker(2, 0, 2, 10);
        x.breaker(3, 1, 1, 20);
        x.told(3, 50000, 4);
        x.load(0, 3);
        x.load(2, 2);
        x.load(4, 1);
        x.goal();
        x.dial(1, 20);
        x.dial(2, 6);
        x.change();
        x.dial(3, 2);
        x.fails(3, true);
        x.run(4, 5, 6);
        return x;
    }

    /** FORCE 1000 behind 1, and LINE 1 of 9 with a BREAKER of CURVE 0. */
    static BreakerRows one(int dial, int pick) {
        BreakerRows x = new BreakerRows();
        x.line(0, 9);
        x.breaker(1, 0, dial, pick);
        return x;
    }

    /** LINES 1 and 2 in a row, of 9 and 10, each with a BREAKER of PICK 1 by a CURVE of its own: 1 and 2. */
    static BreakerRows pair(int upperTicks, int upperDial, int lowerTicks, int lowerDial) {
        BreakerRows x = new BreakerRows();
        x.line(0, 9);
        x.line(1, 10);
        x.corner(1, 10, upperTicks);
        x.corner(2, 10, lowerTicks);
        x.breaker(1, 1, upperDial, 1);
        x.breaker(2, 2, lowerDial, 1);
        return x;
    }

    /** LINES at KNOT 0, each of 1, with a BREAKER of DIAL 1, PICK 1 and 5 TICKS. */
    static BreakerRows star(int lines) {
        BreakerRows x = new BreakerRows();
        x.corner(0, 10, 5);
        for (int k = 1; k <= lines; k++) {
            x.line(0, 1);
            x.breaker(k, 0, 1, 1);
        }
        return x;
    }

    /** LINES in one row, each of 1, without BREAKERS. */
    static BreakerRows row(int lines) {
        BreakerRows x = new BreakerRows();
        for (int k = 1; k <= lines; k++) {
            x.line(k - 1, 1);
        }
        return x;
    }

    static void dueRight(BreakerRows x, int which, int line, int s, int f) {
        due(x.right(0), which);
        due(x.right(1), line);
        due(x.right(2), s);
        due(x.right(3), f);
    }

    static void allRight(BreakerRows x) {
        dueRight(x, 0, NONE, NONE, NONE);
    }

    /** THE ORDER is found, and is this. */
    static void dueOrder(BreakerRows x, int... lines) {
        due(x.change(), lines.length);
        due(x.about(8), lines.length);
        for (int i = 0; i < lines.length; i++) {
            due(x.step(i), lines[i]);
        }
        none(x.step(lines.length));
    }
}
