import java.math.BigInteger;
import java.util.ArrayList;
import java.util.HashSet;
import java.util.List;
import java.util.Random;
import java.util.Set;

/** Runs of drawn calls (the seeds are fixed) against a second, plainer reading of the document. */
public final class ModelTest {
    private static final int NONE = -1;

    /** A BREAKER of the model. */
    private static final class Cut {
        int curve;
        int dial;
        int pick;
        boolean fails;
        Integer goal;
    }

    /** A current as a fraction. */
    private record Current(BigInteger top, BigInteger low) {
        static Current of(long top, long low) {
            return new Current(BigInteger.valueOf(top), BigInteger.valueOf(low));
        }

        boolean tenTimesIsAtLeast(long x) {
            return top.multiply(BigInteger.TEN).compareTo(low.multiply(BigInteger.valueOf(x))) >= 0;
        }
    }

    /** The document word by word, with lists and no thought of speed. */
    private static final class Model {
        int force = 1000;
        int feed = 1;
        int margin = 1;
        int limit = 100000;
        int last = 0;
        boolean hasGoal = false;
        List<Integer> from = new ArrayList<>(List.of(NONE));
        List<Integer> ohm = new ArrayList<>(List.of(0));
        List<Integer> loads = new ArrayList<>(List.of(0));
        List<Cut> cuts = new ArrayList<>();
        List<List<int[]>> curves = new ArrayList<>();
        List<Integer> order = new ArrayList<>();
        int ranLine = NONE;
        int ranS;
        int ranF;

        Model() {
            cuts.add(null);
            for (int c = 0; c < 8; c++) {
                curves.add(new ArrayList<>());
            }
        }

        boolean in(int x, int low, int high) {
            return low <= x && x <= high;
        }

        boolean isLine(int k) {
            return in(k, 1, from.size() - 1);
        }

        boolean has(int k) {
            return isLine(k) && cuts.get(k) != null;
        }

        boolean gone(boolean it) {
            if (it) {
                ranLine = NONE;
            }
            return it;
        }

        boolean source(int v, int r) {
            boolean good = in(v, 1, 10000) && in(r, 1, 1000);
            if (good) {
                force = v;
                feed = r;
            }
            return gone(good);
        }

        int line(int k, int r) {
            if (!in(k, 0, from.size() - 1) || !in(r, 1, 1000) || from.size() == 30) {
                return NONE;
            }
            from.add(k);
            ohm.add(r);
            loads.add(0);
            cuts.add(null);
            gone(true);
            return from.size() - 1;
        }

        boolean load(int k, int i) {
            boolean good = in(k, 0, from.size() - 1) && in(i, 0, 1000);
            if (good) {
                loads.set(k, i);
            }
            return gone(good);
        }

        int corner(int c, int m, int t) {
            if (!in(c, 0, 7) || !in(m, 10, 1000) || !in(t, 1, 1000)) {
                return NONE;
            }
            List<int[]> curve = curves.get(c);
            if (curve.size() == 8) {
                return NONE;
            }
            for (int[] x : curve) {
                if (x[0] >= m || x[1] <= t) {
                    return NONE;
                }
            }
            curve.add(new int[] {m, t});
            gone(true);
            return curve.size();
        }

        boolean breaker(int k, int c, int d, int p) {
            if (!isLine(k) || !in(c, 0, 7) || !in(d, 1, 40) || !in(p, 1, 10000)) {
                return false;
            }
            Cut cut = new Cut();
            cut.curve = c;
            cut.dial = d;
            cut.pick = p;
            cuts.set(k, cut);
            return gone(true);
        }

        boolean remove(int k) {
            if (!has(k)) {
                return false;
            }
            cuts.set(k, null);
            return gone(true);
        }

        boolean dial(int k, int d) {
            if (!has(k) || !in(d, 1, 40)) {
                return false;
            }
            cuts.get(k).dial = d;
            return gone(true);
        }

        boolean fails(int k, boolean it) {
            if (!has(k)) {
                return false;
            }
            cuts.get(k).fails = it;
            return gone(true);
        }

        boolean told(int m, int l, int f) {
            if (!in(m, 1, 10000) || !in(l, 1, 100000) || !in(f, 0, 1000)) {
                return false;
            }
            margin = m;
            limit = l;
            last = f;
            return gone(true);
        }

        /** From KNOT 0 down to the LINE. */
        List<Integer> way(int k) {
            List<Integer> way = new ArrayList<>();
            for (int at = k; at > 0; at = from.get(at)) {
                way.add(0, at);
            }
            return way;
        }

        int keeper(int k) {
            int keeper = NONE;
            for (int b : way(k)) {
                keeper = has(b) ? b : keeper;
            }
            return keeper;
        }

        int next(int k) {
            int keeper = keeper(k);
            return keeper == NONE || from.get(keeper) == 0 ? NONE : keeper(from.get(keeper));
        }

        int byLoads(int k) {
            int sum = 0;
            for (int x = 1; x < from.size(); x++) {
                sum += way(x).contains(k) ? loads.get(x) : 0;
            }
            return sum;
        }

        int lineOf(int k, int what) {
            if (!isLine(k)) {
                return NONE;
            }
            Cut cut = cuts.get(k);
            return switch (what) {
                case 0 -> from.get(k);
                case 1 -> keeper(k);
                case 2 -> next(k);
                case 3 -> byLoads(k);
                case 4 -> cut == null ? 0 : 1;
                case 5 -> cut == null ? NONE : cut.curve;
                case 6 -> cut == null ? NONE : cut.dial;
                case 7 -> cut == null ? NONE : cut.pick;
                case 8 -> cut == null ? NONE : cut.fails ? 1 : 0;
                case 9 -> cut == null || cut.goal == null ? NONE : cut.goal;
                default -> NONE;
            };
        }

        boolean isFault(int k, int s, int f) {
            return isLine(k) && in(s, 0, 16) && in(f, 0, 1000);
        }

        long sum(int k, int s, int f) {
            long sum = 16L * feed + 16L * f + (long) s * ohm.get(k);
            for (int b : way(k)) {
                sum += b == k ? 0 : 16L * ohm.get(b);
            }
            return sum;
        }

        Current current(int k, int s, int f) {
            return Current.of(16L * force, sum(k, s, f));
        }

        long fault(int k, int s, int f, int what) {
            if (!isFault(k, s, f) || !in(what, 0, 1)) {
                return NONE;
            }
            return what == 0 ? sum(k, s, f) : 1600L * force / sum(k, s, f);
        }

        /** NONE: it doesn't SEE it. */
        int wait(int b, Current i) {
            Cut cut = cuts.get(b);
            int ticks = NONE;
            for (int[] corner : curves.get(cut.curve)) {
                if (i.tenTimesIsAtLeast((long) cut.pick * corner[0])) {
                    ticks = corner[1];
                }
            }
            return ticks == NONE ? NONE : cut.dial * ticks;
        }

        int waits(int b, int k, int s, int f) {
            return isFault(k, s, f) && has(b) && way(k).contains(b) ? wait(b, current(k, s, f)) : NONE;
        }

        List<Integer> openers(int k, int s, int f) {
            List<Integer> first = new ArrayList<>();
            int least = Integer.MAX_VALUE;
            for (int b : way(k)) {
                int w = has(b) && !cuts.get(b).fails ? wait(b, current(k, s, f)) : NONE;
                if (w != NONE && w <= least) {
                    if (w < least) {
                        first.clear();
                    }
                    least = w;
                    first.add(b);
                }
            }
            return first;
        }

        int cleared(int k, int s, int f) {
            List<Integer> first = openers(k, s, f);
            return first.isEmpty() ? NONE : wait(first.get(0), current(k, s, f));
        }

        int run(int k, int s, int f) {
            if (!isFault(k, s, f)) {
                return NONE;
            }
            ranLine = k;
            ranS = s;
            ranF = f;
            return cleared(k, s, f);
        }

        int ran(int b, int what) {
            if (ranLine == NONE || !in(what, 0, 1)) {
                return NONE;
            }
            List<Integer> first = openers(ranLine, ranS, ranF);
            if (what == 0) {
                return has(b) ? first.contains(b) ? 1 : 0 : NONE;
            }
            if (!in(b, 0, from.size() - 1)) {
                return NONE;
            }
            for (int over : way(b)) {
                if (first.contains(over)) {
                    return 1;
                }
            }
            return 0;
        }

        int[] asked() {
            return new int[] {0, last};
        }

        boolean badOrder(int k, int s, int f) {
            List<Integer> waits = new ArrayList<>();
            for (int b : way(k)) {
                int w = has(b) ? wait(b, current(k, s, f)) : NONE;
                if (w != NONE) {
                    waits.add(w);
                }
            }
            for (int i = 0; i + 1 < waits.size(); i++) {
                if (waits.get(i) < waits.get(i + 1) + margin) {
                    return true;
                }
            }
            return wait(keeper(k), current(k, s, f)) > limit;
        }

        int[] right() {
            for (int k = 1; k < from.size(); k++) {
                if (keeper(k) == NONE) {
                    return new int[] {1, k, NONE, NONE};
                }
                for (int s = 0; s <= 16; s++) {
                    for (int f : asked()) {
                        if (wait(keeper(k), current(k, s, f)) == NONE) {
                            return new int[] {2, k, s, f};
                        }
                    }
                }
                for (int s = 0; s <= 16; s++) {
                    for (int f : asked()) {
                        if (badOrder(k, s, f)) {
                            return new int[] {3, k, s, f};
                        }
                    }
                }
            }
            for (int k = 1; k < from.size(); k++) {
                if (has(k) && wait(k, Current.of(byLoads(k), 1)) != NONE) {
                    return new int[] {4, k, NONE, NONE};
                }
            }
            return new int[] {0, NONE, NONE, NONE};
        }

        int right(int what) {
            return in(what, 0, 3) ? right()[what] : NONE;
        }

        /** All DIALS 1 at first; an upper one that is too quick is raised by 1, till nothing is to raise. */
        int fit() {
            List<Integer> was = new ArrayList<>();
            for (int k = 1; k < from.size(); k++) {
                was.add(has(k) ? cuts.get(k).dial : NONE);
                if (has(k)) {
                    cuts.get(k).dial = 1;
                }
            }
            boolean fits = true;
            while (fits && raiseOne()) {
                for (int k = 1; k < from.size(); k++) {
                    fits &= !has(k) || cuts.get(k).dial <= 40;
                }
            }
            fits = fits && right()[0] == 0;
            int sum = 0;
            for (int k = 1; k < from.size(); k++) {
                if (has(k) && !fits) {
                    cuts.get(k).dial = was.get(k - 1);
                }
                sum += has(k) ? cuts.get(k).dial : 0;
            }
            gone(fits);
            return fits ? sum : NONE;
        }

        boolean raiseOne() {
            for (int k = from.size() - 1; k >= 1; k--) {
                for (int s = 0; s <= 16; s++) {
                    for (int f : asked()) {
                        int below = NONE;
                        List<Integer> way = way(k);
                        for (int i = way.size() - 1; i >= 0; i--) {
                            int w = has(way.get(i)) ? wait(way.get(i), current(k, s, f)) : NONE;
                            if (w != NONE && below != NONE && w < below + margin) {
                                cuts.get(way.get(i)).dial++;
                                return true;
                            }
                            below = w == NONE ? below : w;
                        }
                    }
                }
            }
            return false;
        }

        long arc(int k, int s, int f) {
            if (!isFault(k, s, f) || cleared(k, s, f) == NONE) {
                return NONE;
            }
            BigInteger v = BigInteger.valueOf(16L * force).pow(2).multiply(BigInteger.valueOf(cleared(k, s, f)));
            return v.divide(BigInteger.valueOf(sum(k, s, f)).pow(2)).longValueExact();
        }

        long worst() {
            long most = 0;
            for (int k = 1; k < from.size(); k++) {
                for (int s = 0; s <= 16; s++) {
                    for (int f : asked()) {
                        long one = arc(k, s, f);
                        if (one == NONE) {
                            return NONE;
                        }
                        most = Math.max(most, one);
                    }
                }
            }
            return most;
        }

        boolean seenAt(int g) {
            for (int k = 1; k < from.size(); k++) {
                if (has(k) && wait(k, Current.of((long) byLoads(k) * g, 100)) != NONE) {
                    return true;
                }
            }
            return false;
        }

        /** Seen at one, seen at all above: so halving finds it. */
        int growth() {
            int low = 0;
            int high = 100001;
            while (high - low > 1) {
                int mid = (low + high) / 2;
                if (seenAt(mid)) {
                    high = mid;
                } else {
                    low = mid;
                }
            }
            return low;
        }

        int goal() {
            hasGoal = true;
            int many = 0;
            for (int k = 1; k < from.size(); k++) {
                if (has(k)) {
                    cuts.get(k).goal = cuts.get(k).dial;
                    many++;
                }
            }
            return many;
        }

        int change() {
            if (!hasGoal || right()[0] != 0) {
                return NONE;
            }
            List<Integer> others = new ArrayList<>();
            for (int k = 1; k < from.size(); k++) {
                if (has(k) && cuts.get(k).goal != null && cuts.get(k).goal != cuts.get(k).dial) {
                    others.add(k);
                }
            }
            List<Integer> taken = new ArrayList<>();
            if (others.size() > 10 || !orderFrom(others, taken, new HashSet<>())) {
                return NONE;
            }
            order = taken;
            return order.size();
        }

        /** Tries all orders, the first by its LINES first; sets that lead nowhere are not tried again. */
        boolean orderFrom(List<Integer> others, List<Integer> taken, Set<Set<Integer>> dead) {
            if (taken.size() == others.size()) {
                return true;
            }
            if (dead.contains(Set.copyOf(taken))) {
                return false;
            }
            for (int k : others) {
                if (!taken.contains(k)) {
                    int was = cuts.get(k).dial;
                    cuts.get(k).dial = cuts.get(k).goal;
                    taken.add(k);
                    boolean found = right()[0] == 0 && orderFrom(others, taken, dead);
                    cuts.get(k).dial = was;
                    if (found) {
                        return true;
                    }
                    taken.remove(taken.size() - 1);
                }
            }
            dead.add(Set.copyOf(taken));
            return false;
        }

        int step(int i) {
            return in(i, 0, order.size() - 1) ? order.get(i) : NONE;
        }

        int about(int what) {
            int many = 0;
            for (Cut cut : cuts) {
                many += cut == null ? 0 : 1;
            }
            int[] all = {from.size(), many, force, feed, margin, limit, last, hasGoal ? 1 : 0, order.size()};
            return in(what, 0, 8) ? all[what] : NONE;
        }
    }

    private static int wrong = 0;
    private static final int[] rightSeen = new int[5];
    private static final int[] ordersSeen = new int[11];
    private static int fitsSeen = 0;
    private static int turnedOrders = 0;
    private static int deadEnds = 0;

    private final int seed;
    private final Random draw;
    private final Model model = new Model();
    private final BreakerRows real = new BreakerRows();
    private final List<String> told = new ArrayList<>();
    private final boolean wide;
    private int knots = 1;

    private ModelTest(int seed) {
        this.seed = seed;
        this.wide = seed % 10 == 0;
        this.draw = new Random(seed);
    }

    private void same(String call, long got, long want) {
        told.add(call + " = " + got);
        if (got != want) {
            wrong++;
            if (wrong <= 5) {
                System.out.println("seed " + seed + ": " + String.join("; ", told) + " but due is " + want);
            }
        }
    }

    private void same(String call, boolean got, boolean want) {
        same(call, got ? 1 : 0, want ? 1 : 0);
    }

    private int from(int low, int high) {
        return low + draw.nextInt(high - low + 1);
    }

    private int someLine() {
        return from(0, 20) == 0 ? from(-1, 31) : from(1, Math.max(1, knots - 1));
    }

    private void lineTo(int k, int r) {
        int got = real.line(k, r);
        same("line(" + k + "," + r + ")", got, model.line(k, r));
        knots = real.about(0);
    }

    private void cornerAt(int c, int m, int t) {
        same("corner(" + c + "," + m + "," + t + ")", real.corner(c, m, t), model.corner(c, m, t));
    }

    private void breakerAt(int k, int c, int d, int p) {
        same("breaker(" + k + "," + c + "," + d + "," + p + ")", real.breaker(k, c, d, p), model.breaker(k, c, d, p));
    }

    private void dialAt(int k, int d) {
        same("dial(" + k + "," + d + ")", real.dial(k, d), model.dial(k, d));
    }

    private void toldBe(int m, int l, int f) {
        same("told(" + m + "," + l + "," + f + ")", real.told(m, l, f), model.told(m, l, f));
    }

    private void sourceBe(int v, int r) {
        same("source(" + v + "," + r + ")", real.source(v, r), model.source(v, r));
    }

    private void loadAt(int k, int i) {
        same("load(" + k + "," + i + ")", real.load(k, i), model.load(k, i));
    }

    private void askRight() {
        for (int what = 0; what <= 3; what++) {
            same("right(" + what + ")", real.right(what), model.right(what));
        }
        rightSeen[Math.max(0, real.right(0))]++;
    }

    private void askFit() {
        int got = real.fit();
        same("fit()", got, model.fit());
        fitsSeen += got > 0 ? 1 : 0;
        for (int k = 1; k < knots; k++) {
            same("lineOf(" + k + ",6)", real.lineOf(k, 6), model.lineOf(k, 6));
        }
    }

    private void askChange() {
        int others = 0;
        for (int k = 1; k < knots; k++) {
            others += real.lineOf(k, 9) != NONE && real.lineOf(k, 9) != real.lineOf(k, 6) ? 1 : 0;
        }
        int got = real.change();
        same("change()", got, model.change());
        boolean turned = false;
        for (int i = -1; i <= 10; i++) {
            same("step(" + i + ")", real.step(i), model.step(i));
            turned |= i > 0 && real.step(i) != NONE && real.step(i) < real.step(i - 1);
        }
        if (got >= 0) {
            ordersSeen[got]++;
            turnedOrders += turned ? 1 : 0;
        } else if (others > 1 && real.right(0) == 0) {
            deadEnds++;
        }
    }

    private void askAll() {
        for (int k = -1; k <= knots; k++) {
            for (int what = -1; what <= 10; what++) {
                same("lineOf(" + k + "," + what + ")", real.lineOf(k, what), model.lineOf(k, what));
            }
            for (int what = -1; what <= 2; what++) {
                same("ran(" + k + "," + what + ")", real.ran(k, what), model.ran(k, what));
            }
        }
        for (int what = -1; what <= 9; what++) {
            same("about(" + what + ")", real.about(what), model.about(what));
        }
    }

    private void askFault() {
        int k = someLine();
        int s = from(0, 30) == 0 ? from(-1, 17) : from(0, 16);
        int f = from(0, 30) == 0 ? from(0, 1) * 1002 - 1 : from(0, 60);
        String at = k + "," + s + "," + f + ")";
        int what = from(0, 20) == 0 ? from(-1, 2) : from(0, 1);
        same("fault(" + what + ": " + at, real.fault(k, s, f, what), model.fault(k, s, f, what));
        int b = someLine();
        same("waits(" + b + "," + at, real.waits(b, k, s, f), model.waits(b, k, s, f));
        same("arc(" + at, real.arc(k, s, f), model.arc(k, s, f));
        same("run(" + at, real.run(k, s, f), model.run(k, s, f));
        for (int x = -1; x <= knots; x++) {
            same("ran(" + x + ",0)", real.ran(x, 0), model.ran(x, 0));
            same("ran(" + x + ",1)", real.ran(x, 1), model.ran(x, 1));
        }
    }

    private void build() {
        int lines = wide ? from(10, 29) : from(1, 9);
        int deep = wide ? from(0, 1) : from(0, 3);
        for (int i = 0; i < lines; i++) {
            lineTo(from(0, 3) < deep ? knots - 1 : from(0, knots - 1), from(1, 12));
        }
        for (int c = 0; c < 3; c++) {
            int m = 10;
            int t = from(20, 60);
            int corners = from(1, 5);
            for (int i = 0; i < corners; i++) {
                cornerAt(c, m, t);
                m += from(0, 30) == 0 ? 0 : from(1, 60);
                t -= from(0, 30) == 0 ? 0 : from(1, 12);
            }
        }
        sourceBe(from(500, 4000), from(1, 6));
        for (int k = 1; k < knots; k++) {
            if (k == 1 || real.lineOf(k, 0) == 0 && wide || from(0, 4) > 0) {
                breakerAt(k, from(0, 2), from(1, 40), from(3, wide ? 12 : 30));
            }
        }
        toldBe(from(1, 20), from(0, 3) > 0 ? 100000 : from(20, 400), from(0, 2) == 0 ? from(1, 30) : 0);
    }

    private void oneCall() {
        switch (from(0, 15)) {
            case 0 -> breakerAt(someLine(), from(0, 2), from(1, 40), from(3, 60));
            case 1 -> {
                int k = someLine();
                same("remove(" + k + ")", real.remove(k), model.remove(k));
            }
            case 2 -> dialAt(someLine(), from(0, 41));
            case 3 -> {
                int k = someLine();
                boolean it = draw.nextBoolean();
                same("fails(" + k + "," + it + ")", real.fails(k, it), model.fails(k, it));
            }
            case 4 -> toldBe(from(0, 12), from(0, 2) > 0 ? 100000 : from(10, 300), from(0, 1) * from(-1, 40));
            case 5 -> loadAt(from(-1, knots), from(0, 6));
            case 6 -> {
                if (wide || knots < 11) {
                    lineTo(from(0, knots - 1), from(1, 20));
                }
            }
            case 7 -> sourceBe(from(300, 5000), from(0, 6));
            case 8 -> cornerAt(from(0, 3), from(10, 300), from(1, 40));
            case 9 -> same("goal()", real.goal(), model.goal());
            case 10 -> askRight();
            case 11 -> same("worst()", real.worst(), model.worst());
            case 12 -> same("growth()", real.growth(), model.growth());
            case 13 -> askAll();
            default -> askFault();
        }
    }

    /** Changes of many DIALS between two that are RIGHT: found by fit(), and raised where all stays RIGHT. */
    private void tryOrders() {
        askFit();
        if (real.right(0) != 0) {
            return;
        }
        for (int round = 0; round < 3; round++) {
            raiseSome();
            same("goal()", real.goal(), model.goal());
            raiseSome();
            if (draw.nextBoolean()) {
                askFit();
            }
            askChange();
        }
    }

    private void raiseSome() {
        int tries = wide ? 16 : 8;
        for (int i = 0; i < tries; i++) {
            int k = someLine();
            int was = real.lineOf(k, 6);
            dialAt(k, draw.nextBoolean() ? was + from(-3, 6) : from(1, 40));
            if (was != NONE && real.right(0) != 0 && from(0, 60) > 0) {
                dialAt(k, was);
            }
        }
    }

    private void loadMore() {
        for (int i = 0; i < 3; i++) {
            loadAt(from(0, knots - 1), from(0, 15));
            same("growth()", real.growth(), model.growth());
            askRight();
        }
    }

    private void go() {
        build();
        askRight();
        tryOrders();
        for (int i = 0; i < 40; i++) {
            oneCall();
        }
        askRight();
        askChange();
        tryOrders();
        loadMore();
        askAll();
    }

    public static void main(String[] args) {
        int runs = 1500;
        for (int seed = 1; seed <= runs; seed++) {
            new ModelTest(seed).go();
        }
        System.out.println(runs + " drawn runs, " + wrong + " answers not as due; fits " + fitsSeen + ", right "
                + java.util.Arrays.toString(rightSeen) + ", orders " + java.util.Arrays.toString(ordersSeen)
                + ", turned " + turnedOrders + ", none at all " + deadEnds);
        boolean thin = fitsSeen < 100 || turnedOrders < 100 || deadEnds < 20;
        thin |= ordersSeen[6] + ordersSeen[7] + ordersSeen[8] + ordersSeen[9] + ordersSeen[10] < 40;
        for (int seen : rightSeen) {
            thin |= seen < 20;
        }
        if (thin) {
            System.out.println("the drawn runs do not reach all that they should");
        }
        if (wrong != 0 || thin) {
            System.exit(1);
        }
    }
}
