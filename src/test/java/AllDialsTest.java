import java.util.ArrayList;
import java.util.Arrays;
import java.util.List;
import java.util.Random;

/**
 * Small nets with numbers from the whole of their ranges (the seeds are fixed): of all DIALS those that are RIGHT are
 * found one by one and held against fit(), and all orders of steps against change(). Every third net is of twos alone,
 * so that currents are often just what a CORNER asks.
 */
public final class AllDialsTest {
    private static final int NONE = -1;
    private static final int CURVES = 3;
    private static final int MOST_BREAKERS = 3;

    private static int wrong = 0;
    private static int fitsSeen = 0;
    private static int unfitSeen = 0;
    private static int ordersSeen = 0;
    private static int noOrderSeen = 0;

    private final int seed;
    private final Random draw;
    private final BreakerRows real = new BreakerRows();
    private final int lines;
    private final int[] from;
    private final int[] ohm;
    private final int[] loads;
    private final int[] curveAt;
    private final int[] picks;
    private final int[][] multiples = new int[CURVES][0];
    private final int[][] ticks = new int[CURVES][0];
    private final List<Integer> breakers = new ArrayList<>();
    private final boolean[] has;
    private final boolean ofTwos;
    private int force;
    private int feed;
    private int margin;
    private int limit;
    private int last;

    private AllDialsTest(int seed) {
        this.seed = seed;
        draw = new Random(seed);
        ofTwos = seed % 3 == 0;
        lines = 1 + draw.nextInt(5);
        from = new int[lines + 1];
        ohm = new int[lines + 1];
        loads = new int[lines + 1];
        curveAt = new int[lines + 1];
        picks = new int[lines + 1];
        has = new boolean[lines + 1];
    }

    /** Small numbers as often as great ones. */
    private int spread(int low, int high) {
        double u = Math.log(low) + (Math.log(high + 1.0) - Math.log(low)) * draw.nextDouble();
        return Math.max(low, Math.min(high, (int) Math.exp(u)));
    }

    private void must(boolean it, String what) {
        if (!it) {
            wrong++;
            System.out.println("seed " + seed + ": not so: " + what);
        }
    }

    private long sum(int k, int s, int f) {
        long sum = 16L * feed + 16L * f + (long) s * ohm[k];
        for (int x = from[k]; x > 0; x = from[x]) {
            sum += 16L * ohm[x];
        }
        return sum;
    }

    private int waitOf(int b, int dial, long current, long parts) {
        int wait = NONE;
        for (int i = 0; i < ticks[curveAt[b]].length; i++) {
            if (10 * current >= (long) picks[b] * multiples[curveAt[b]][i] * parts) {
                wait = dial * ticks[curveAt[b]][i];
            }
        }
        return wait;
    }

    /** The BREAKERS of the WAY, the KEEPER first. */
    private boolean isFaultRight(int k, long sum, int[] dials) {
        int below = NONE;
        boolean first = true;
        for (int b = k; b > 0; b = from[b]) {
            if (has[b]) {
                int wait = waitOf(b, dials[b], 16L * force, sum);
                if (first && (wait == NONE || wait > limit) || wait != NONE && below != NONE && wait < below + margin) {
                    return false;
                }
                first = false;
                below = wait == NONE ? below : wait;
            }
        }
        return !first;
    }

    private boolean isRight(int[] dials) {
        for (int k = 1; k <= lines; k++) {
            for (int s = 0; s <= 16; s++) {
                if (!isFaultRight(k, sum(k, s, 0), dials) || !isFaultRight(k, sum(k, s, last), dials)) {
                    return false;
                }
            }
        }
        for (int b : breakers) {
            if (waitOf(b, dials[b], byLoads(b), 1) != NONE) {
                return false;
            }
        }
        return true;
    }

    private int byLoads(int k) {
        int current = 0;
        for (int x = 1; x <= lines; x++) {
            int at = x;
            while (at > k) {
                at = from[at];
            }
            current += at == k ? loads[x] : 0;
        }
        return current;
    }

    private void build() {
        feed = ofTwos ? 1 : spread(1, 20);
        force = ofTwos ? 8192 : spread(1000, 10000);
        margin = spread(1, spread(1, 10000));
        last = ofTwos ? 0 : draw.nextInt(2) * spread(1, 100);
        must(real.source(force, feed), "source");
        int most = spread(1, 1000);
        for (int k = 1; k <= lines; k++) {
            from[k] = draw.nextInt(3) > 0 ? k - 1 : draw.nextInt(k);
            // of twos: what is above is doubled by each LINE
            ohm[k] = ofTwos ? (int) (sum(k, 0, 0) / 16) : spread(1, most);
            must(real.line(from[k], ohm[k]) == k, "line");
        }
        for (int c = 0; c < CURVES; c++) {
            bend(c);
        }
        placeBreakers();
        limit = limitNear();
        must(real.told(margin, limit, last), "told");
        int knot = draw.nextInt(lines + 1);
        loads[knot] = draw.nextInt(3) == 0 ? spread(1, 1000) : 0;
        must(real.load(knot, loads[knot]), "load");
    }

    private void placeBreakers() {
        for (int k = 1; k <= lines && breakers.size() < MOST_BREAKERS; k++) {
            if (from[k] == 0 || draw.nextInt(4) > 0) {
                breakers.add(k);
                has[k] = true;
                curveAt[k] = draw.nextInt(CURVES);
                picks[k] = pickFor(k);
                must(real.breaker(k, curveAt[k], 1 + draw.nextInt(40), picks[k]), "breaker");
            }
        }
    }

    /** Often just what a BREAKER WAITS, or one less. */
    private int limitNear() {
        if (breakers.isEmpty() || draw.nextInt(2) == 0) {
            return draw.nextInt(3) == 0 ? spread(1, 100000) : 100000;
        }
        int[] row = ticks[curveAt[breakers.get(draw.nextInt(breakers.size()))]];
        return Math.max(1, spread(1, 40) * row[draw.nextInt(row.length)] - draw.nextInt(2));
    }

    private void bend(int c) {
        int m = ofTwos ? 10 : spread(10, 20);
        int t = spread(5, 1000);
        int many = 1 + draw.nextInt(8);
        for (int i = 1; i <= many && m <= 1000 && t >= 1; i++) {
            must(real.corner(c, m, t) == i, "corner");
            multiples[c] = Arrays.copyOf(multiples[c], i);
            ticks[c] = Arrays.copyOf(ticks[c], i);
            multiples[c][i - 1] = m;
            ticks[c][i - 1] = t;
            m += ofTwos ? m : spread(1, 200);
            t -= spread(1, Math.max(1, t / 3));
        }
    }

    /** Often the greatest by which a CORNER is just reached at some FAULT of the LINE, else a small one. */
    private int pickFor(int k) {
        int far = 0;
        for (int x = 1; x <= lines; x++) {
            far = sum(x, 16, last) > (far == 0 ? 0 : sum(far, 16, last)) ? x : far;
        }
        int corner = draw.nextInt(multiples[curveAt[k]].length);
        int at = draw.nextInt(2) == 0 ? far : k;
        long edge = 160L * force / (sum(at, draw.nextInt(17), last) * multiples[curveAt[k]][corner]);
        long low = 160L * force / (sum(far, 16, last) * multiples[curveAt[k]][0]);
        long pick = draw.nextInt(3) == 0 ? edge : spread(1, (int) Math.max(1, Math.min(10000, low)));
        return (int) Math.max(1, Math.min(10000, pick));
    }

    /** Each DIAL's least of all that are RIGHT; null if none are. */
    private int[] leastDials() {
        int[] dials = new int[lines + 1];
        int[] least = new int[lines + 1];
        Arrays.fill(least, 99);
        boolean any = false;
        int all = 1;
        for (int i = 0; i < breakers.size(); i++) {
            all *= 40;
        }
        for (int code = 0; code < all; code++) {
            int rest = code;
            for (int b : breakers) {
                dials[b] = 1 + rest % 40;
                rest /= 40;
            }
            if (isRight(dials)) {
                any = true;
                for (int b : breakers) {
                    least[b] = Math.min(least[b], dials[b]);
                }
            }
        }
        return any ? least : null;
    }

    private int[] dialsAtHand() {
        int[] dials = new int[lines + 1];
        for (int b : breakers) {
            dials[b] = real.lineOf(b, 6);
        }
        return dials;
    }

    private boolean tryFit() {
        int[] before = dialsAtHand();
        int[] least = leastDials();
        int got = real.fit();
        int due = 0;
        for (int b : breakers) {
            due += least == null ? 0 : least[b];
            must(real.lineOf(b, 6) == (least == null ? before[b] : least[b]), "the DIAL of " + b + " behind fit()");
        }
        must(got == (least == null ? NONE : due), "fit() is " + due + ", not " + got);
        must((real.right(0) == 0) == isRight(dialsAtHand()), "right(0) behind fit()");
        fitsSeen += least == null ? 0 : 1;
        unfitSeen += least == null ? 1 : 0;
        return least != null;
    }

    /** DIALS that are mostly RIGHT, by steps that are mostly kept only if they are. */
    private void wander(int[] dials) {
        for (int i = 0; i < 8; i++) {
            int b = breakers.get(draw.nextInt(breakers.size()));
            int was = dials[b];
            dials[b] = 1 + draw.nextInt(40);
            if (!isRight(dials) && draw.nextInt(8) > 0) {
                dials[b] = was;
            }
        }
        for (int b : breakers) {
            must(real.dial(b, dials[b]), "dial");
        }
    }

    private void tryChange() {
        int[] goal = dialsAtHand();
        wander(goal);
        must(real.goal() == breakers.size(), "goal");
        int[] dials = goal.clone();
        wander(dials);
        List<Integer> others = new ArrayList<>();
        for (int b : breakers) {
            if (dials[b] != goal[b]) {
                others.add(b);
            }
        }
        List<Integer> due = isRight(dials) ? orderOf(others, dials, goal) : null;
        int got = real.change();
        must(got == (due == null ? NONE : due.size()), "change() is " + due + ", not " + got);
        for (int i = 0; due != null && i < due.size(); i++) {
            must(real.step(i) == due.get(i), "step(" + i + ") of " + due);
        }
        ordersSeen += due != null && due.size() > 1 ? 1 : 0;
        noOrderSeen += due == null ? 1 : 0;
    }

    /** All orders, the lower LINE first; the first that stays RIGHT, or null. */
    private List<Integer> orderOf(List<Integer> others, int[] dials, int[] goal) {
        if (others.isEmpty()) {
            return new ArrayList<>();
        }
        for (int b : others) {
            int[] then = dials.clone();
            then[b] = goal[b];
            List<Integer> rest = new ArrayList<>(others);
            rest.remove(Integer.valueOf(b));
            List<Integer> tail = isRight(then) ? orderOf(rest, then, goal) : null;
            if (tail != null) {
                tail.add(0, b);
                return tail;
            }
        }
        return null;
    }

    private void go() {
        build();
        if (tryFit()) {
            for (int round = 0; round < 4; round++) {
                tryChange();
            }
        }
    }

    public static void main(String[] args) {
        int runs = 300;
        for (int seed = 1; seed <= runs; seed++) {
            new AllDialsTest(seed).go();
        }
        System.out.println(runs + " small nets, " + wrong + " answers not as due; fits " + fitsSeen + ", none fit "
                + unfitSeen + ", orders " + ordersSeen + ", no order " + noOrderSeen);
        boolean thin = fitsSeen < 100 || unfitSeen < 100 || ordersSeen < 100 || noOrderSeen < 50;
        if (thin) {
            System.out.println("the small nets do not reach all that they should");
        }
        if (wrong != 0 || thin) {
            System.exit(1);
        }
    }
}
