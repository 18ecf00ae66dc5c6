/** A bench for breakers in rows; what each call answers is said by the numbered promises of DOC.md. */
public final class BreakerRows {
    public static final int NONE = -1;

    private static final int MOST_KNOTS = 30;
    private static final int MOST_CURVES = 8;
    private static final int MOST_CORNERS = 8;
    private static final int MOST_STEPS = 10;
    private static final int LAST_PLACE = 16;
    private static final int MOST_RESISTANCE = 1000;
    private static final int MOST_FORCE = 10000;
    private static final int MOST_LOAD = 1000;
    private static final int LEAST_MULTIPLE = 10;
    private static final int MOST_MULTIPLE = 1000;
    private static final int MOST_TICKS = 1000;
    private static final int MOST_DIAL = 40;
    private static final int MOST_PICK = 10000;
    private static final int MOST_MARGIN = 10000;
    private static final int MOST_LIMIT = 100000;
    private static final int MOST_GROWTH = 100000;

    private static final int NO_KEEPER = 1;
    private static final int UNSEEN = 2;
    private static final int OUT_OF_ORDER = 3;
    private static final int SEES_LOAD = 4;

    private final Net net;
    private final Rows rows;
    private final Rules rules;
    private final Judge judge;
    private final Demands demands;
    private final Order order;
    private final int[] trial;
    private final int[] spare;
    private boolean hasGoal;
    private boolean hasRun;
    private int opened;

    public BreakerRows() {
        net = new Net();
        rows = new Rows();
        rules = new Rules();
        judge = new Judge(net, rows, rules);
        demands = new Demands(net, rows, rules);
        order = new Order(rows, demands);
        trial = new int[MOST_KNOTS];
        spare = new int[MOST_KNOTS];
    }

    public boolean source(int force, int r) {
        if (!isWithin(force, 1, MOST_FORCE) || !isWithin(r, 1, MOST_RESISTANCE)) {
            return false;
        }
        net.force = force;
        net.sourceResistance = r;
        hasRun = false;
        return true;
    }

    public int line(int from, int r) {
        if (!net.isKnot(from) || !isWithin(r, 1, MOST_RESISTANCE) || net.knots >= MOST_KNOTS) {
            return NONE;
        }
        hasRun = false;
        return net.hang(from, r);
    }

    public boolean load(int knot, int current) {
        if (!net.isKnot(knot) || !isWithin(current, 0, MOST_LOAD)) {
            return false;
        }
        net.loads[knot] = current;
        hasRun = false;
        return true;
    }

    public int corner(int curve, int multiple, int ticks) {
        if (!isWithin(curve, 0, MOST_CURVES - 1)) {
            return NONE;
        }
        int many = rows.curves[curve].addCorner(multiple, ticks);
        if (many != NONE) {
            hasRun = false;
        }
        return many;
    }

    public boolean breaker(int k, int curve, int dial, int pick) {
        if (!net.isLine(k) || !isWithin(curve, 0, MOST_CURVES - 1)
                || !isWithin(dial, 1, MOST_DIAL) || !isWithin(pick, 1, MOST_PICK)) {
            return false;
        }
        rows.place(k, curve, dial, pick);
        hasRun = false;
        return true;
    }

    public boolean remove(int k) {
        if (!rows.isThere(k)) {
            return false;
        }
        rows.takeAway(k);
        hasRun = false;
        return true;
    }

    public boolean dial(int k, int dial) {
        if (!rows.isThere(k) || !isWithin(dial, 1, MOST_DIAL)) {
            return false;
        }
        rows.dials[k] = dial;
        hasRun = false;
        return true;
    }

    public boolean fails(int k, boolean it) {
        if (!rows.isThere(k)) {
            return false;
        }
        rows.setFailing(k, it);
        hasRun = false;
        return true;
    }

    public boolean told(int margin, int limit, int last) {
        if (!isWithin(margin, 1, MOST_MARGIN) || !isWithin(limit, 1, MOST_LIMIT)
                || !isWithin(last, 0, MOST_RESISTANCE)) {
            return false;
        }
        rules.margin = margin;
        rules.limit = limit;
        rules.last = last;
        hasRun = false;
        return true;
    }

    public int lineOf(int k, int what) {
        if (!net.isLine(k)) {
            return NONE;
        }
        switch (what) {
            case 0:
                return net.from[k];
            case 1:
                return lineOrNone(rows.lastOf(net.way[k]));
            case 2:
                return lineOrNone(nextOf(k));
            case 3:
                return net.currentByLoads(k);
            case 4:
                return rows.isThere(k) ? 1 : 0;
            default:
                return breakerOf(k, what);
        }
    }

    public long fault(int k, int s, int f, int what) {
        if (!net.isFault(k, s, f)) {
            return NONE;
        }
        long sum = net.sumOf(k, s, f);
        if (what == 0) {
            return sum;
        }
        if (what == 1 && sum > 0) {
            return 100 * net.sixteenForces() / sum;
        }
        return NONE;
    }

    public int waits(int b, int k, int s, int f) {
        if (!net.isFault(k, s, f) || !net.isOnWay(b, k)) {
            return NONE;
        }
        return rows.waitAt(b, net.sixteenForces(), net.sumOf(k, s, f));
    }

    public int run(int k, int s, int f) {
        if (!net.isFault(k, s, f)) {
            return NONE;
        }
        int tick = clearTick(k, s, f);
        opened = openersAt(k, s, f, tick);
        hasRun = true;
        return tick;
    }

    public int ran(int b, int what) {
        if (!hasRun) {
            return NONE;
        }
        if (what == 0 && rows.isThere(b)) {
            return (opened >> b) & 1;
        }
        if (what == 1 && net.isKnot(b)) {
            return (net.way[b] & opened) != 0 ? 1 : 0;
        }
        return NONE;
    }

    public int right(int what) {
        if (!isWithin(what, 0, 3)) {
            return NONE;
        }
        judge.look();
        switch (what) {
            case 0:
                return judge.which;
            case 1:
                return judge.line;
            case 2:
                return judge.place;
            default:
                return judge.by;
        }
    }

    public int fit() {
        if (!findLeastDials()) {
            return NONE;
        }
        System.arraycopy(rows.dials, 0, spare, 0, MOST_KNOTS);
        System.arraycopy(trial, 0, rows.dials, 0, MOST_KNOTS);
        judge.look();
        if (judge.which != 0) {
            System.arraycopy(spare, 0, rows.dials, 0, MOST_KNOTS);
            return NONE;
        }
        hasRun = false;
        return rows.sumOfDials();
    }

    public long arc(int k, int s, int f) {
        if (!net.isFault(k, s, f)) {
            return NONE;
        }
        return arcOf(k, s, f);
    }

    public long worst() {
        long most = 0;
        for (int k = 1; k < net.knots; k++) {
            long one = worstOf(k);
            if (one == NONE) {
                return NONE;
            }
            most = Math.max(most, one);
        }
        return most;
    }

    public int growth() {
        long least = MOST_GROWTH;
        for (int b = 1; b < net.knots; b++) {
            least = Math.min(least, growthOf(b));
        }
        return (int) least;
    }

    public int goal() {
        hasGoal = true;
        return rows.keepDialsAsGoal();
    }

    public int change() {
        if (!hasGoal || !order.gatherLines()) {
            return NONE;
        }
        judge.look();
        if (judge.which != 0) {
            return NONE;
        }
        demands.gather();
        return order.find();
    }

    public int step(int i) {
        return isWithin(i, 0, order.steps - 1) ? order.kept[i] : NONE;
    }

    public int about(int what) {
        switch (what) {
            case 0:
                return net.knots;
            case 1:
                return Integer.bitCount(rows.there);
            case 2:
                return net.force;
            case 3:
                return net.sourceResistance;
            case 4:
                return rules.margin;
            case 5:
                return rules.limit;
            case 6:
                return rules.last;
            case 7:
                return hasGoal ? 1 : 0;
            case 8:
                return order.steps;
            default:
                return NONE;
        }
    }

    private static boolean isWithin(int x, int least, int most) {
        return x >= least && x <= most;
    }

    /** Inside, LINE 0 stands for no LINE, since no LINE bears that number. */
    private static int lineOrNone(int line) {
        return line > 0 ? line : NONE;
    }

    /** Whether the bit of a KNOT or LINE is set in a mask. */
    private static boolean holds(int mask, int b) {
        return b >= 0 && b < MOST_KNOTS && ((mask >> b) & 1) != 0;
    }

    private int nextOf(int k) {
        int keeper = rows.lastOf(net.way[k]);
        return rows.lastOf(net.way[keeper] & ~(1 << keeper));
    }

    private int breakerOf(int k, int what) {
        if (!rows.isThere(k)) {
            return NONE;
        }
        switch (what) {
            case 5:
                return rows.curveAt[k];
            case 6:
                return rows.dials[k];
            case 7:
                return rows.picks[k];
            case 8:
                return holds(rows.failing, k) ? 1 : 0;
            case 9:
                return rows.goalDials[k];
            default:
                return NONE;
        }
    }

    /** The BREAKERS on the WAY of LINE k that can open: those that don't FAIL. */
    private int ableOn(int k) {
        return net.way[k] & rows.there & ~rows.failing;
    }

    private int clearTick(int k, int s, int f) {
        int able = ableOn(k);
        long sum = net.sumOf(k, s, f);
        int tick = NONE;
        for (int b = k; b >= 1; b--) {
            int wait = holds(able, b) ? rows.waitAt(b, net.sixteenForces(), sum) : NONE;
            if (wait != NONE && (tick == NONE || wait < tick)) {
                tick = wait;
            }
        }
        return tick;
    }

    private int openersAt(int k, int s, int f, int tick) {
        if (tick == NONE) {
            return 0;
        }
        int able = ableOn(k);
        long sum = net.sumOf(k, s, f);
        int openers = 0;
        for (int b = k; b >= 1; b--) {
            if (holds(able, b) && rows.waitAt(b, net.sixteenForces(), sum) == tick) {
                openers |= 1 << b;
            }
        }
        return openers;
    }

    private long arcOf(int k, int s, int f) {
        int tick = clearTick(k, s, f);
        long sum = net.sumOf(k, s, f);
        if (tick == NONE || sum < 1) {
            return NONE;
        }
        long current = net.sixteenForces();
        return current * current * tick / (sum * sum);
    }

    private long worstOf(int k) {
        long most = 0;
        for (int s = 0; s <= LAST_PLACE; s++) {
            for (int j = 0; j < rules.resistancesAsked(); j++) {
                long one = arcOf(k, s, rules.resistanceAsked(j));
                if (one == NONE) {
                    return NONE;
                }
                most = Math.max(most, one);
            }
        }
        return most;
    }

    /** The most hundredths g with 10 * load * g / 100 still under what the BREAKER SEES. */
    private long growthOf(int b) {
        long current = net.currentByLoads(b);
        long seen = rows.leastTenthsSeen(b);
        if (current < 1 || seen == NONE) {
            return MOST_GROWTH;
        }
        return (10 * seen - 1) / current;
    }

    /** Puts the least DIALS that keep all margins into the trial; false if one would go beyond the most. */
    private boolean findLeastDials() {
        demands.gather();
        System.arraycopy(rows.dials, 0, trial, 0, MOST_KNOTS);
        // a LINE's number is above that of every LINE over it, so those below come first
        for (int b = net.knots - 1; b >= 1; b--) {
            if (rows.isThere(b)) {
                long least = demands.leastDial(b, trial);
                if (least > MOST_DIAL) {
                    return false;
                }
                trial[b] = (int) least;
            }
        }
        return true;
    }

    /** The KNOTS, LINES and LOADS, and what feeds them. */
    private static final class Net {
        int knots = 1;
        int force = 1000;
        int sourceResistance = 1;
        final int[] from = new int[MOST_KNOTS];
        final int[] resistance = new int[MOST_KNOTS];
        /** The resistance of the LINES above a LINE. */
        final int[] above = new int[MOST_KNOTS];
        /** The WAY as a mask: bit b is set for LINE b. */
        final int[] way = new int[MOST_KNOTS];
        final int[] loads = new int[MOST_KNOTS];

        boolean isKnot(int k) {
            return k >= 0 && k < knots;
        }

        boolean isLine(int k) {
            return k >= 1 && k < knots;
        }

        boolean isOnWay(int b, int k) {
            return isLine(b) && isLine(k) && holds(way[k], b);
        }

        boolean isFault(int k, int s, int f) {
            return isLine(k) && isWithin(s, 0, LAST_PLACE) && isWithin(f, 0, MOST_RESISTANCE);
        }

        int hang(int upper, int r) {
            int k = knots;
            from[k] = upper;
            resistance[k] = r;
            above[k] = above[upper] + resistance[upper];
            way[k] = way[upper] | (1 << k);
            knots = k + 1;
            return k;
        }

        long sumOf(int k, int s, int f) {
            return 16L * (sourceResistance + above[k] + f) + (long) s * resistance[k];
        }

        /** A FAULT's current is this by its SUM. */
        long sixteenForces() {
            return 16L * force;
        }

        int currentByLoads(int k) {
            int current = 0;
            for (int below = k; below < knots; below++) {
                if (holds(way[below], k)) {
                    current += loads[below];
                }
            }
            return current;
        }
    }

    /** MARGIN, LIMIT and LAST. */
    private static final class Rules {
        int margin = 1;
        int limit = MOST_LIMIT;
        int last = 0;

        /** With LAST 0 both FAULTS of a place are the same, so one look is enough. */
        int resistancesAsked() {
            return last == 0 ? 1 : 2;
        }

        int resistanceAsked(int j) {
            return j == 0 ? 0 : last;
        }
    }

    /** A CURVE: its CORNERS, MULTIPLES rising and TICKS falling. */
    private static final class Curve {
        int corners;
        final int[] multiples = new int[MOST_CORNERS];
        final int[] ticks = new int[MOST_CORNERS];

        int addCorner(int multiple, int time) {
            if (corners >= MOST_CORNERS || !isWithin(multiple, LEAST_MULTIPLE, MOST_MULTIPLE)
                    || !isWithin(time, 1, MOST_TICKS)) {
                return NONE;
            }
            if (corners > 0 && (multiple <= multiples[corners - 1] || time >= ticks[corners - 1])) {
                return NONE;
            }
            multiples[corners] = multiple;
            ticks[corners] = time;
            corners++;
            return corners;
        }

        /** The last CORNER that a current, a fraction, reaches by this PICK; NONE if it isn't SEEN. */
        int cornerReached(int pick, long current, long parts) {
            for (int i = corners - 1; i >= 0; i--) {
                if (10 * current >= (long) pick * multiples[i] * parts) {
                    return i;
                }
            }
            return NONE;
        }
    }

    /** The CURVES and the BREAKERS, one place a LINE. */
    private static final class Rows {
        final Curve[] curves = new Curve[MOST_CURVES];
        /** Masks: bit b is set for LINE b. */
        int there;
        int failing;
        final int[] curveAt = new int[MOST_KNOTS];
        final int[] dials = new int[MOST_KNOTS];
        final int[] picks = new int[MOST_KNOTS];
        final int[] goalDials = new int[MOST_KNOTS];

        Rows() {
            for (int c = 0; c < MOST_CURVES; c++) {
                curves[c] = new Curve();
            }
            for (int b = 0; b < MOST_KNOTS; b++) {
                goalDials[b] = NONE;
            }
        }

        boolean isThere(int b) {
            return holds(there, b);
        }

        void place(int b, int curve, int dial, int pick) {
            there |= 1 << b;
            failing &= ~(1 << b);
            curveAt[b] = curve;
            dials[b] = dial;
            picks[b] = pick;
            goalDials[b] = NONE;
        }

        void takeAway(int b) {
            there &= ~(1 << b);
            failing &= ~(1 << b);
            goalDials[b] = NONE;
        }

        void setFailing(int b, boolean it) {
            failing = it ? failing | (1 << b) : failing & ~(1 << b);
        }

        /** The last LINE of these that has a BREAKER: on a WAY numbers rise; 0 if there is none. */
        int lastOf(int lines) {
            int mask = lines & there;
            return mask == 0 ? 0 : 31 - Integer.numberOfLeadingZeros(mask);
        }

        int cornerReached(int b, long current, long parts) {
            if (!holds(there, b)) {
                return NONE;
            }
            return curves[curveAt[b]].cornerReached(picks[b], current, parts);
        }

        int ticksAt(int b, int corner) {
            return curves[curveAt[b]].ticks[corner];
        }

        int waitAt(int b, long current, long parts) {
            if (!holds(there, b)) {
                return NONE;
            }
            Curve curve = curves[curveAt[b]];
            int corner = curve.cornerReached(picks[b], current, parts);
            return corner == NONE ? NONE : dials[b] * curve.ticks[corner];
        }

        /** Ten times the least current that the BREAKER SEES; NONE if it SEES nothing. */
        long leastTenthsSeen(int b) {
            if (!isThere(b) || curves[curveAt[b]].corners == 0) {
                return NONE;
            }
            return (long) picks[b] * curves[curveAt[b]].multiples[0];
        }

        int sumOfDials() {
            int sum = 0;
            for (int b = 0; b < MOST_KNOTS; b++) {
                sum += isThere(b) ? dials[b] : 0;
            }
            return sum;
        }

        int keepDialsAsGoal() {
            int many = 0;
            for (int b = 0; b < MOST_KNOTS; b++) {
                goalDials[b] = isThere(b) ? dials[b] : NONE;
                many += isThere(b) ? 1 : 0;
            }
            return many;
        }
    }

    /** Looks whether all is RIGHT, and keeps the first that isn't. */
    private static final class Judge {
        private final Net net;
        private final Rows rows;
        private final Rules rules;
        int which;
        int line;
        int place;
        int by;

        Judge(Net net, Rows rows, Rules rules) {
            this.net = net;
            this.rows = rows;
            this.rules = rules;
        }

        void look() {
            note(0, NONE, NONE, NONE);
            for (int k = 1; k < net.knots && which == 0; k++) {
                lookAtLine(k);
            }
            for (int b = 1; b < net.knots && which == 0; b++) {
                if (rows.cornerReached(b, net.currentByLoads(b), 1) != NONE) {
                    note(SEES_LOAD, b, NONE, NONE);
                }
            }
        }

        private void note(int what, int k, int s, int f) {
            which = what;
            line = k;
            place = s;
            by = f;
        }

        private void lookAtLine(int k) {
            if (rows.lastOf(net.way[k]) == 0) {
                note(NO_KEEPER, k, NONE, NONE);
                return;
            }
            lookAtFaults(k, UNSEEN);
            if (which == 0) {
                lookAtFaults(k, OUT_OF_ORDER);
            }
        }

        private void lookAtFaults(int k, int what) {
            for (int s = 0; s <= LAST_PLACE; s++) {
                for (int j = 0; j < rules.resistancesAsked(); j++) {
                    long sum = net.sumOf(k, s, rules.resistanceAsked(j));
                    if (what == UNSEEN ? isUnseen(k, sum) : isOutOfOrder(k, sum)) {
                        note(what, k, s, rules.resistanceAsked(j));
                        return;
                    }
                }
            }
        }

        private boolean isUnseen(int k, long sum) {
            int keeper = rows.lastOf(net.way[k]);
            return rows.cornerReached(keeper, net.sixteenForces(), sum) == NONE;
        }

        /** Asked only where the KEEPER SEES the FAULT: it is the first that is met from below. */
        private boolean isOutOfOrder(int k, long sum) {
            int way = net.way[k];
            int below = NONE;
            for (int b = k; b >= 1; b--) {
                int wait = holds(way, b) ? rows.waitAt(b, net.sixteenForces(), sum) : NONE;
                if (wait != NONE) {
                    if (below == NONE ? wait > rules.limit : wait < below + rules.margin) {
                        return true;
                    }
                    below = wait;
                }
            }
            return false;
        }
    }

    /** What the FAULTS ASKED demand of DIALS, gathered once so that many DIALS can be tried against it. */
    private static final class Demands {
        private final Net net;
        private final Rows rows;
        private final Rules rules;
        /** For each pair of LINES and CORNER of the upper one: the most TICKS of the lower one, the next below it. */
        private final int[] lowerTicks = new int[MOST_KNOTS * (MOST_KNOTS - 1) / 2 * MOST_CORNERS];
        /** The most TICKS of a BREAKER at FAULTS of the LINES that it keeps. */
        private final int[] keeperTicks = new int[MOST_KNOTS];

        Demands(Net net, Rows rows, Rules rules) {
            this.net = net;
            this.rows = rows;
            this.rules = rules;
        }

        void gather() {
            for (int i = 0; i < lowerTicks.length; i++) {
                lowerTicks[i] = 0;
            }
            for (int b = 0; b < MOST_KNOTS; b++) {
                keeperTicks[b] = 0;
            }
            for (int k = 1; k < net.knots; k++) {
                for (int s = 0; s <= LAST_PLACE; s++) {
                    for (int j = 0; j < rules.resistancesAsked(); j++) {
                        gatherOf(k, net.sumOf(k, s, rules.resistanceAsked(j)));
                    }
                }
            }
        }

        private void gatherOf(int k, long sum) {
            int way = net.way[k];
            int below = 0;
            int belowTicks = 0;
            for (int b = k; b >= 1; b--) {
                int corner = holds(way, b) ? rows.cornerReached(b, net.sixteenForces(), sum) : NONE;
                if (corner != NONE) {
                    int ticks = rows.ticksAt(b, corner);
                    if (below == 0) {
                        keeperTicks[b] = Math.max(keeperTicks[b], ticks);
                    } else {
                        int at = rowOf(b, below) + corner;
                        lowerTicks[at] = Math.max(lowerTicks[at], belowTicks);
                    }
                    below = b;
                    belowTicks = ticks;
                }
            }
        }

        /** Where the CORNERS of a pair of LINES, the upper one's number the lesser, begin. */
        private static int rowOf(int upper, int lower) {
            return (lower * (lower - 1) / 2 + upper) * MOST_CORNERS;
        }

        /** The least DIAL of a BREAKER that waits long enough for all below it, theirs being as given. */
        long leastDial(int b, int[] dials) {
            long least = 1;
            for (int lower = b + 1; lower < net.knots; lower++) {
                int row = rowOf(b, lower);
                for (int i = 0; i < MOST_CORNERS; i++) {
                    int ticks = rows.ticksAt(b, i);
                    if (lowerTicks[row + i] > 0 && ticks > 0) {
                        int wait = dials[lower] * lowerTicks[row + i] + rules.margin;
                        least = Math.max(least, (wait + ticks - 1) / ticks);
                    }
                }
            }
            return least;
        }

        /** Whether all that is demanded of LINE b's BREAKER, by itself and with others, is met. */
        boolean areMetAround(int b, int[] dials) {
            if (dials[b] * keeperTicks[b] > rules.limit) {
                return false;
            }
            for (int other = 1; other < net.knots; other++) {
                if (other < b && !isMet(other, b, dials) || other > b && !isMet(b, other, dials)) {
                    return false;
                }
            }
            return true;
        }

        private boolean isMet(int upper, int lower, int[] dials) {
            int row = rowOf(upper, lower);
            for (int i = 0; i < MOST_CORNERS; i++) {
                int ticks = lowerTicks[row + i];
                if (ticks > 0 && dials[upper] * rows.ticksAt(upper, i) < dials[lower] * ticks + rules.margin) {
                    return false;
                }
            }
            return true;
        }
    }

    /** Seeks THE ORDER of a change, and keeps the one that was found last. */
    private static final class Order {
        private final Rows rows;
        private final Demands demands;
        int steps;
        final int[] kept = new int[MOST_STEPS];
        private int many;
        private final int[] lines = new int[MOST_STEPS];
        private final int[] path = new int[MOST_STEPS];
        private final int[] dials = new int[MOST_KNOTS];

        Order(Rows rows, Demands demands) {
            this.rows = rows;
            this.demands = demands;
        }

        /** The LINES whose DIALS are others in the GOAL; false if they are too many. */
        boolean gatherLines() {
            many = 0;
            for (int b = 1; b < MOST_KNOTS; b++) {
                if (rows.goalDials[b] != NONE && rows.goalDials[b] != rows.dials[b]) {
                    if (many >= MOST_STEPS) {
                        return false;
                    }
                    lines[many] = b;
                    many++;
                }
            }
            return true;
        }

        /**
         * How many steps, now kept; NONE if there is no order. All is RIGHT at first when this is asked.
         * A demand binds two DIALS at most. If it is met at first and at the end, then it can only say which of the
         * two goes first; if it isn't met at the end, one of them never goes. So a step that can be taken can be taken
         * later, too, and taking the lowest one each time bars no other.
         */
        int find() {
            System.arraycopy(rows.dials, 0, dials, 0, MOST_KNOTS);
            int taken = 0;
            for (int i = 0; i < many && i < MOST_STEPS; i++) {
                int at = lowestThatCanGo(taken);
                if (at == NONE) {
                    return NONE;
                }
                taken |= 1 << at;
                path[i] = lines[at];
            }
            System.arraycopy(path, 0, kept, 0, MOST_STEPS);
            steps = many;
            return steps;
        }

        /** Gives the first LINE not taken by which all stays RIGHT its DIAL of the GOAL: its place, or NONE. */
        private int lowestThatCanGo(int taken) {
            for (int i = 0; i < many; i++) {
                if (!holds(taken, i)) {
                    int b = lines[i];
                    dials[b] = rows.goalDials[b];
                    // one DIAL alone is new, so what was RIGHT can be broken around it only
                    if (demands.areMetAround(b, dials)) {
                        return i;
                    }
                    dials[b] = rows.dials[b];
                }
            }
            return NONE;
        }
    }
}
