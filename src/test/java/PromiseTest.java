/** Each promise by hand-made calls: ordinary inputs, the edges that the document names, and wrong inputs. */
public final class PromiseTest {
    private static final int LOW = Integer.MIN_VALUE;
    private static final int HIGH = Integer.MAX_VALUE;
    private static final int NONE = BreakerRows.NONE;
    private static int wrong = 0;
    private static int promise = 0;
    private static int asked = 0;

    private static void due(long got, long want) {
        asked++;
        if (got != want) {
            wrong++;
            System.out.println("promise " + promise + ": " + place() + ": got " + got + ", due is " + want);
        }
    }

    /** Where the test that asks stands: the first place above the helpers. */
    private static String place() {
        for (StackTraceElement at : new Throwable().getStackTrace()) {
            if (!at.getMethodName().startsWith("due") && !at.getMethodName().equals("place")) {
                return at.toString();
            }
        }
        return "";
    }

    private static void due(boolean got, boolean want) {
        due(got ? 1 : 0, want ? 1 : 0);
    }

    /** LINES 1 and 2 in a row, 9 and 10 ohms, with a CURVE of three CORNERS and a BREAKER on each. */
    private static BreakerRows twoInARow() {
        BreakerRows x = new BreakerRows();
        x.line(0, 9);
        x.line(1, 10);
        x.corner(0, 10, 30);
        x.corner(0, 20, 10);
        x.corner(0, 50, 2);
        x.breaker(1, 0, 2, 10);
        x.breaker(2, 0, 1, 10);
        return x;
    }

    public static void main(String[] args) {
        newObject();
        source();
        line();
        load();
        corner();
        breaker();
        remove();
        dial();
        fails();
        told();
        lineOf();
        fault();
        waits();
        run();
        ran();
        ranIsGone();
        rightByLines();
        rightOfOrder();
        rightOfLoads();
        fit();
        arc();
        worst();
        growth();
        goal();
        change();
        changeOfMany();
        step();
        fullNet();
        about();
        System.out.println(asked + " answers asked, " + wrong + " not as due");
        if (wrong != 0) {
            System.exit(1);
        }
    }

    private static void newObject() {
        promise = 1;
        due(BreakerRows.NONE, -1);
        BreakerRows x = new BreakerRows();
        int[] want = {1, 0, 1000, 1, 1, 100000, 0, 0, 0};
        for (int what = 0; what < want.length; what++) {
            due(x.about(what), want[what]);
        }
        due(x.ran(0, 1), NONE);
        due(x.step(0), NONE);
        due(x.change(), NONE);
        due(x.line(0, 1), 1);
        due(x.lineOf(1, 3), 0);
        due(x.breaker(1, 7, 40, 1), true);
        due(x.waits(1, 1, 0, 0), NONE);
        for (int curve = 0; curve < 8; curve++) {
            due(x.corner(curve, 1000, 1), 1);
        }
    }

    private static void source() {
        promise = 2;
        BreakerRows x = new BreakerRows();
        due(x.source(1, 1), true);
        due(x.about(2), 1);
        due(x.about(3), 1);
        due(x.source(10000, 1000), true);
        due(x.about(2), 10000);
        due(x.about(3), 1000);
        int[][] bad = {{0, 5}, {10001, 5}, {5, 0}, {5, 1001}, {-1, 5}, {5, -1}, {LOW, 5}, {HIGH, 5},
            {5, LOW}, {5, HIGH}};
        for (int[] b : bad) {
            due(x.source(b[0], b[1]), false);
        }
        due(x.about(2), 10000);
        due(x.about(3), 1000);
        x.line(0, 1);
        due(x.fault(1, 0, 0, 0), 16000);
        due(x.fault(1, 0, 0, 1), 1000);
    }

    private static void line() {
        promise = 3;
        BreakerRows x = new BreakerRows();
        due(x.line(1, 1), NONE);
        due(x.line(-1, 1), NONE);
        due(x.line(LOW, 1), NONE);
        due(x.line(HIGH, 1), NONE);
        due(x.line(0, 0), NONE);
        due(x.line(0, 1001), NONE);
        due(x.line(0, LOW), NONE);
        due(x.line(0, HIGH), NONE);
        due(x.about(0), 1);
        due(x.line(0, 1000), 1);
        due(x.line(0, 1), 2);
        due(x.line(2, 1), 3);
        due(x.lineOf(1, 0), 0);
        due(x.lineOf(3, 0), 2);
        for (int k = 4; k < 30; k++) {
            due(x.line(k - 1, 1), k);
        }
        due(x.line(0, 1), NONE);
        due(x.line(29, 1), NONE);
        due(x.about(0), 30);
        due(x.fault(29, 16, 0, 0), 16 * (1 + 28));

        BreakerRows y = twoInARow();
        due(y.goal(), 2);
        due(y.line(2, 1), 3);
        due(y.lineOf(3, 9), NONE);
        due(y.breaker(3, 0, 1, 10), true);
        due(y.lineOf(3, 9), NONE);
    }

    private static void load() {
        promise = 4;
        BreakerRows x = twoInARow();
        due(x.load(0, 1000), true);
        due(x.load(1, 0), true);
        due(x.load(2, 1000), true);
        due(x.load(3, 1), false);
        due(x.load(-1, 1), false);
        due(x.load(LOW, 1), false);
        due(x.load(HIGH, 1), false);
        due(x.load(2, -1), false);
        due(x.load(2, 1001), false);
        due(x.load(2, LOW), false);
        due(x.load(2, HIGH), false);
        due(x.lineOf(2, 3), 1000);
        due(x.lineOf(1, 3), 1000);
        due(x.load(1, 7), true);
        due(x.lineOf(2, 3), 1000);
        due(x.lineOf(1, 3), 1007);
        due(x.load(2, 1), true);
        due(x.lineOf(1, 3), 8);
    }

    private static void corner() {
        promise = 5;
        BreakerRows x = new BreakerRows();
        int[][] bad = {{-1, 10, 1}, {8, 10, 1}, {LOW, 10, 1}, {HIGH, 10, 1}, {0, 9, 1}, {0, 1001, 1}, {0, LOW, 1},
            {0, HIGH, 1}, {0, 10, 0}, {0, 10, 1001}, {0, 10, LOW}, {0, 10, HIGH}};
        for (int[] b : bad) {
            due(x.corner(b[0], b[1], b[2]), NONE);
        }
        due(x.corner(0, 10, 1000), 1);
        due(x.corner(7, 1000, 1), 1);
        due(x.corner(0, 10, 999), NONE);
        due(x.corner(0, 11, 1000), NONE);
        due(x.corner(0, 9, 999), NONE);
        due(x.corner(0, 11, 999), 2);
        due(x.corner(0, 10, 998), NONE);
        due(x.corner(0, 12, 1000), NONE);
        for (int i = 3; i <= 8; i++) {
            due(x.corner(0, 10 * i, 900 - i), i);
        }
        due(x.corner(0, 1000, 1), NONE);
        due(x.corner(1, 1000, 1), 1);
        // the last of the eight counts
        x.line(0, 1);
        x.breaker(1, 0, 1, 125);
        due(x.waits(1, 1, 0, 0), 892);
        x.breaker(1, 0, 1, 126);
        due(x.waits(1, 1, 0, 0), 893);
    }

    private static void breaker() {
        promise = 6;
        BreakerRows x = twoInARow();
        int[][] bad = {{0, 0, 1, 1}, {3, 0, 1, 1}, {-1, 0, 1, 1}, {LOW, 0, 1, 1}, {HIGH, 0, 1, 1}, {1, -1, 1, 1},
            {1, 8, 1, 1}, {1, LOW, 1, 1}, {1, HIGH, 1, 1}, {1, 0, 0, 1}, {1, 0, 41, 1}, {1, 0, LOW, 1},
            {1, 0, HIGH, 1}, {1, 0, 1, 0}, {1, 0, 1, 10001}, {1, 0, 1, LOW}, {1, 0, 1, HIGH}};
        x.fails(1, true);
        due(x.goal(), 2);
        for (int[] b : bad) {
            due(x.breaker(b[0], b[1], b[2], b[3]), false);
        }
        int[] was = {1, 0, 2, 10, 1, 2};
        for (int what = 4; what <= 9; what++) {
            due(x.lineOf(1, what), was[what - 4]);
        }
        due(x.breaker(1, 7, 40, 10000), true);
        int[] is = {1, 7, 40, 10000, 0, NONE};
        for (int what = 4; what <= 9; what++) {
            due(x.lineOf(1, what), is[what - 4]);
        }
        due(x.lineOf(2, 9), 1);
        due(x.breaker(1, 0, 1, 1), true);
        due(x.about(1), 2);
        due(x.about(7), 1);
        x.line(0, 1);
        due(x.lineOf(3, 4), 0);
        due(x.breaker(3, 3, 1, 1), true);
        due(x.about(1), 3);
    }

    private static void remove() {
        promise = 7;
        BreakerRows x = twoInARow();
        due(x.goal(), 2);
        due(x.remove(0), false);
        due(x.remove(3), false);
        due(x.remove(-1), false);
        due(x.remove(30), false);
        due(x.remove(33), false);
        due(x.remove(LOW), false);
        due(x.remove(HIGH), false);
        due(x.remove(2), true);
        due(x.remove(2), false);
        due(x.about(1), 1);
        due(x.lineOf(2, 4), 0);
        due(x.lineOf(2, 9), NONE);
        due(x.lineOf(1, 9), 2);
        due(x.waits(2, 2, 0, 0), NONE);
        due(x.breaker(2, 0, 5, 10), true);
        due(x.lineOf(2, 9), NONE);
        due(x.lineOf(2, 8), 0);
        // a BREAKER that went and came again is not in the GOAL, so nothing is to change
        x.breaker(2, 0, 1, 10);
        due(x.change(), 0);
    }

    private static void dial() {
        promise = 8;
        BreakerRows x = twoInARow();
        due(x.goal(), 2);
        due(x.dial(1, 40), true);
        due(x.lineOf(1, 6), 40);
        due(x.lineOf(1, 9), 2);
        due(x.dial(1, 1), true);
        int[][] bad = {{0, 1}, {3, 1}, {-1, 1}, {32, 1}, {LOW, 1}, {HIGH, 1}, {1, 0}, {1, 41}, {1, LOW}, {1, HIGH}};
        for (int[] b : bad) {
            due(x.dial(b[0], b[1]), false);
        }
        due(x.lineOf(1, 6), 1);
        due(x.lineOf(2, 6), 1);
        due(x.waits(1, 2, 16, 0), 2);
        x.fails(1, true);
        due(x.dial(1, 3), true);
        due(x.lineOf(1, 8), 1);
        x.remove(1);
        due(x.dial(1, 3), false);
    }

    private static void fails() {
        promise = 9;
        BreakerRows x = twoInARow();
        due(x.fails(0, true), false);
        due(x.fails(3, true), false);
        due(x.fails(-1, true), false);
        due(x.fails(33, true), false);
        due(x.fails(LOW, false), false);
        due(x.fails(HIGH, false), false);
        due(x.fails(1, true), true);
        due(x.fails(1, true), true);
        due(x.lineOf(1, 8), 1);
        due(x.lineOf(2, 8), 0);
        due(x.fails(1, false), true);
        due(x.fails(1, false), true);
        due(x.lineOf(1, 8), 0);
        x.fails(2, true);
        x.remove(2);
        due(x.fails(2, true), false);
        x.breaker(2, 0, 1, 10);
        due(x.lineOf(2, 8), 0);
        // who FAILS still waits and counts for RIGHT, but doesn't open
        x.fails(2, true);
        due(x.waits(2, 2, 16, 0), 2);
        due(x.right(0), 0);
        due(x.run(2, 16, 0), 4);
    }

    private static void told() {
        promise = 10;
        BreakerRows x = new BreakerRows();
        due(x.told(1, 1, 0), true);
        due(x.about(5), 1);
        due(x.told(10000, 100000, 1000), true);
        int[][] bad = {{0, 1, 0}, {10001, 1, 0}, {LOW, 1, 0}, {HIGH, 1, 0}, {1, 0, 0}, {1, 100001, 0}, {1, LOW, 0},
            {1, HIGH, 0}, {1, 1, -1}, {1, 1, 1001}, {1, 1, LOW}, {1, 1, HIGH}};
        for (int[] b : bad) {
            due(x.told(b[0], b[1], b[2]), false);
        }
        due(x.about(4), 10000);
        due(x.about(5), 100000);
        due(x.about(6), 1000);
    }

    private static void lineOf() {
        promise = 11;
        // 0 - 1 - 2 - 3 - 5, and 4 from 2; BREAKERS at 1, 3, 5
        BreakerRows x = new BreakerRows();
        x.line(0, 1);
        x.line(1, 1);
        x.line(2, 1);
        x.line(2, 1);
        x.line(3, 1);
        x.breaker(1, 0, 3, 11);
        x.breaker(3, 1, 4, 12);
        x.breaker(5, 2, 5, 13);
        x.load(0, 1000);
        x.load(1, 1);
        x.load(2, 10);
        x.load(3, 100);
        x.load(4, 200);
        x.load(5, 400);
        int[][] want = {
            {0, 1, NONE, 711, 1, 0, 3, 11, 0, NONE},
            {1, 1, NONE, 710, 0, NONE, NONE, NONE, NONE, NONE},
            {2, 3, 1, 500, 1, 1, 4, 12, 0, NONE},
            {2, 1, NONE, 200, 0, NONE, NONE, NONE, NONE, NONE},
            {3, 5, 3, 400, 1, 2, 5, 13, 0, NONE}};
        for (int k = 1; k <= 5; k++) {
            for (int what = 0; what <= 9; what++) {
                due(x.lineOf(k, what), want[k - 1][what]);
            }
            due(x.lineOf(k, 10), NONE);
            due(x.lineOf(k, -1), NONE);
            due(x.lineOf(k, LOW), NONE);
            due(x.lineOf(k, HIGH), NONE);
        }
        x.goal();
        due(x.lineOf(5, 9), 5);
        x.remove(3);
        due(x.lineOf(5, 2), 1);
        due(x.lineOf(3, 1), 1);
        due(x.lineOf(3, 2), NONE);
        x.remove(1);
        due(x.lineOf(3, 1), NONE);
        due(x.lineOf(3, 2), NONE);
        due(x.lineOf(5, 1), 5);
        due(x.lineOf(5, 2), NONE);
        for (int what = 0; what <= 9; what++) {
            due(x.lineOf(0, what), NONE);
            due(x.lineOf(6, what), NONE);
            due(x.lineOf(-1, what), NONE);
            due(x.lineOf(LOW, what), NONE);
            due(x.lineOf(HIGH, what), NONE);
        }
    }

    private static void fault() {
        promise = 12;
        BreakerRows x = twoInARow();
        due(x.fault(2, 7, 3, 0), 16 * (1 + 9 + 3) + 7 * 10);
        due(x.fault(2, 7, 3, 1), 100L * 16 * 1000 / 278);
        due(x.fault(1, 16, 1000, 0), 16 * (1 + 1000) + 16 * 9);
        int[][] bad = {{0, 0, 0, 0}, {3, 0, 0, 0}, {-1, 0, 0, 0}, {LOW, 0, 0, 0}, {HIGH, 0, 0, 0}, {1, -1, 0, 0},
            {1, 17, 0, 0}, {1, LOW, 0, 0}, {1, HIGH, 0, 0}, {1, 0, -1, 0}, {1, 0, 1001, 0}, {1, 0, LOW, 0},
            {1, 0, HIGH, 0}, {1, 0, 0, -1}, {1, 0, 0, 2}, {1, 0, 0, LOW}, {1, 0, 0, HIGH}};
        for (int[] b : bad) {
            due(x.fault(b[0], b[1], b[2], b[3]), NONE);
        }
        x.line(1, 4);
        due(x.fault(3, 16, 0, 0), 16 * (1 + 9 + 4));
        // the longest WAY of the greatest resistances
        BreakerRows y = new BreakerRows();
        y.source(10000, 1000);
        for (int k = 0; k < 29; k++) {
            y.line(k, 1000);
        }
        due(y.fault(29, 16, 1000, 0), 16L * 31000);
        due(y.fault(29, 16, 1000, 1), 32);
        y.source(1, 1000);
        due(y.fault(29, 16, 1000, 1), 0);
    }

    private static void waits() {
        promise = 13;
        BreakerRows x = twoInARow();
        x.line(1, 1);
        x.breaker(3, 0, 7, 10);
        due(x.waits(1, 3, 0, 0), 4);
        due(x.waits(3, 3, 0, 0), 14);
        due(x.waits(2, 3, 0, 0), NONE);
        due(x.waits(3, 2, 0, 0), NONE);
        due(x.waits(3, 1, 16, 0), NONE);
        due(x.waits(1, 1, 16, 1000), NONE);
        // current 20 is just the second CORNER, 10 just the first
        due(x.waits(2, 2, 0, 40), 10);
        due(x.waits(2, 2, 1, 40), 30);
        due(x.waits(2, 2, 0, 90), 30);
        due(x.waits(2, 2, 1, 90), NONE);
        due(x.waits(2, 2, 0, 91), NONE);
        int[][] bad = {{0, 1, 0, 0}, {4, 1, 0, 0}, {-1, 1, 0, 0}, {33, 1, 0, 0}, {LOW, 1, 0, 0}, {HIGH, 1, 0, 0},
            {1, 0, 0, 0}, {1, 4, 0, 0}, {1, -1, 0, 0}, {1, LOW, 0, 0}, {1, HIGH, 0, 0}, {1, 1, -1, 0}, {1, 1, 17, 0},
            {1, 1, LOW, 0}, {1, 1, HIGH, 0}, {1, 1, 0, -1}, {1, 1, 0, 1001}, {1, 1, 0, LOW}, {1, 1, 0, HIGH}};
        for (int[] b : bad) {
            due(x.waits(b[0], b[1], b[2], b[3]), NONE);
        }
        x.remove(1);
        due(x.waits(1, 1, 0, 0), NONE);
        // the greatest numbers: 40 times 1000
        BreakerRows y = new BreakerRows();
        y.source(10000, 1);
        y.line(0, 1);
        y.corner(0, 10, 1000);
        y.breaker(1, 0, 40, 10000);
        due(y.waits(1, 1, 0, 0), 40000);
        due(y.waits(1, 1, 1, 0), NONE);
    }

    private static void run() {
        promise = 14;
        BreakerRows x = twoInARow();
        due(x.run(2, 0, 0), 2);
        due(x.run(1, 0, 0), 4);
        due(x.run(2, 16, 30), 10);
        due(x.run(2, 16, 1000), NONE);
        x.breaker(1, 0, 1, 1000);
        due(x.run(2, 0, 0), 2);
        due(x.run(1, 0, 0), 30);
        due(x.run(1, 1, 0), NONE);
        int[][] bad = {{0, 0, 0}, {3, 0, 0}, {-1, 0, 0}, {LOW, 0, 0}, {HIGH, 0, 0}, {1, -1, 0}, {1, 17, 0},
            {1, LOW, 0}, {1, HIGH, 0}, {1, 0, -1}, {1, 0, 1001}, {1, 0, LOW}, {1, 0, HIGH}};
        for (int[] b : bad) {
            due(x.run(b[0], b[1], b[2]), NONE);
        }
        // the upper one opens first if its WAIT is the less
        BreakerRows y = twoInARow();
        y.dial(2, 3);
        due(y.run(2, 16, 0), 4);
        due(y.ran(1, 0), 1);
        due(y.ran(2, 0), 0);
        due(y.ran(2, 1), 1);
    }

    private static void ran() {
        promise = 15;
        BreakerRows x = twoInARow();
        x.line(2, 1);
        x.line(1, 1);
        due(x.ran(1, 0), NONE);
        due(x.ran(1, 1), NONE);
        due(x.run(3, 0, 0), 2);
        int[] opened = {NONE, 0, 1, NONE, NONE, NONE};
        int[] dark = {0, 0, 1, 1, 0, NONE};
        for (int b = 0; b <= 5; b++) {
            due(x.ran(b, 0), opened[b]);
            due(x.ran(b, 1), dark[b]);
            due(x.ran(b, 2), NONE);
            due(x.ran(b, -1), NONE);
            due(x.ran(b, LOW), NONE);
            due(x.ran(b, HIGH), NONE);
        }
        for (int what = 0; what <= 1; what++) {
            due(x.ran(-1, what), NONE);
            due(x.ran(30, what), NONE);
            due(x.ran(34, what), NONE);
            due(x.ran(LOW, what), NONE);
            due(x.ran(HIGH, what), NONE);
        }
        // no run of a FAULT: the latest one stays
        due(x.run(5, 0, 0), NONE);
        due(x.run(3, 17, 0), NONE);
        due(x.ran(2, 0), 1);
        // two with the same least WAIT open both
        x.dial(1, 1);
        due(x.run(3, 0, 0), 2);
        due(x.ran(1, 0), 1);
        due(x.ran(2, 0), 1);
        due(x.ran(4, 1), 1);
        due(x.ran(0, 1), 0);
        // not cleared: a run all the same
        x.fails(1, true);
        x.fails(2, true);
        due(x.run(3, 0, 0), NONE);
        due(x.ran(1, 0), 0);
        due(x.ran(2, 0), 0);
        due(x.ran(3, 0), NONE);
        due(x.ran(3, 1), 0);
        due(x.ran(0, 1), 0);
    }

    private static void ranIsGone() {
        promise = 15;
        BreakerRows x = twoInARow();
        for (int i = 0; i < 10; i++) {
            due(x.run(2, 0, 0) != NONE, true);
            due(x.ran(2, 1), 1);
            due(refusedChange(x, i), true);
            due(x.ran(2, 1), 1);
            due(takenChange(x, i), true);
            due(x.ran(2, 1), NONE);
            due(x.ran(2, 0), NONE);
        }
        // these change nothing that a run rests on
        x.run(2, 0, 0);
        x.goal();
        x.change();
        x.right(0);
        x.worst();
        x.arc(1, 0, 0);
        x.waits(1, 1, 0, 0);
        x.growth();
        x.step(0);
        x.about(0);
        x.lineOf(1, 1);
        x.fault(1, 0, 0, 0);
        due(x.ran(2, 1), 1);
        // a fit() that finds none lets the run stay
        x.told(10000, 1, 0);
        x.run(2, 0, 0);
        due(x.fit(), NONE);
        due(x.ran(2, 1), 1);
    }

    private static boolean refusedChange(BreakerRows x, int i) {
        switch (i) {
            case 0: return !x.source(0, 1);
            case 1: return x.line(9, 1) == NONE;
            case 2: return !x.load(9, 1);
            case 3: return x.corner(0, 10, 1) == NONE;
            case 4: return !x.breaker(9, 0, 1, 1);
            case 5: return !x.remove(9);
            case 6: return !x.dial(1, 0);
            case 7: return !x.fails(9, true);
            case 8: return !x.told(0, 0, 0);
            default: return true;
        }
    }

    private static boolean takenChange(BreakerRows x, int i) {
        switch (i) {
            case 0: return x.source(1000, 1);
            case 1: return x.line(1, 1) == 3;
            case 2: return x.load(0, 0);
            case 3: return x.corner(5, 10, 1) == 1;
            case 4: return x.breaker(2, 0, 1, 10);
            case 5: return x.breaker(3, 0, 1, 10) && x.run(2, 0, 0) != NONE && x.remove(3);
            case 6: return x.dial(1, x.lineOf(1, 6));
            case 7: return x.fails(1, false);
            case 8: return x.told(1, 100000, 0);
            default: return x.fit() != NONE;
        }
    }

    private static void dueRight(BreakerRows x, int which, int line, int s, int f) {
        due(x.right(0), which);
        due(x.right(1), line);
        due(x.right(2), s);
        due(x.right(3), f);
        due(x.right(4), NONE);
        due(x.right(-1), NONE);
        due(x.right(LOW), NONE);
        due(x.right(HIGH), NONE);
    }

    private static void rightByLines() {
        promise = 16;
        BreakerRows x = new BreakerRows();
        dueRight(x, 0, NONE, NONE, NONE);
        x.line(0, 9);
        x.line(0, 9);
        x.line(1, 1);
        dueRight(x, 1, 1, NONE, NONE);
        x.breaker(1, 0, 1, 10);
        dueRight(x, 2, 1, 0, 0);
        x.corner(0, 10, 5);
        dueRight(x, 1, 2, NONE, NONE);
        x.breaker(2, 0, 1, 10);
        dueRight(x, 0, NONE, NONE, NONE);
        // LINE 3 is kept by LINE 1's
        x.told(1, 100000, 90);
        dueRight(x, 2, 3, 1, 90);
        x.told(1, 100000, 99);
        dueRight(x, 2, 1, 1, 99);
        x.told(1, 100000, 100);
        dueRight(x, 2, 1, 0, 100);
        x.told(1, 100000, 89);
        dueRight(x, 0, NONE, NONE, NONE);
        // just seen: 1000 by 1 + 9 + 90 is 10
        x.line(3, 90);
        x.told(1, 100000, 0);
        dueRight(x, 2, 4, 16, 0);
        x.line(3, 89);
        dueRight(x, 2, 4, 16, 0);
        x.breaker(4, 0, 1, 9);
        dueRight(x, 3, 4, 0, 0);
    }

    private static void rightOfOrder() {
        promise = 16;
        BreakerRows x = twoInARow();
        dueRight(x, 0, NONE, NONE, NONE);
        // margins: 4 to 2 is 2, no more
        x.told(2, 100000, 0);
        dueRight(x, 0, NONE, NONE, NONE);
        x.told(3, 100000, 0);
        dueRight(x, 3, 2, 0, 0);
        // with LAST 40 LINE 2's waits 10 at s = 0 and 30 behind it
        x.told(2, 20, 40);
        dueRight(x, 3, 2, 1, 40);
        x.told(2, 30, 40);
        dueRight(x, 0, NONE, NONE, NONE);
        // the LIMIT is the KEEPER's alone: LINE 1's BREAKER waits 20 at LINE 2, but 4 at its own
        x.told(1, 4, 0);
        dueRight(x, 0, NONE, NONE, NONE);
        x.told(1, 3, 0);
        dueRight(x, 3, 1, 0, 0);
        x.dial(1, 1);
        dueRight(x, 3, 2, 0, 0);
        // three in a row, LINE 2's seeing as far as its own LINE's end
        BreakerRows y = new BreakerRows();
        y.line(0, 9);
        y.line(1, 10);
        y.line(2, 10);
        y.corner(0, 10, 5);
        y.breaker(1, 0, 3, 10);
        y.breaker(2, 0, 40, 40);
        y.breaker(3, 0, 3, 10);
        dueRight(y, 3, 2, 0, 0);
        y.breaker(2, 0, 40, 51);
        dueRight(y, 2, 2, 16, 0);
        y.breaker(2, 0, 40, 50);
        dueRight(y, 3, 2, 0, 0);
        y.dial(2, 2);
        dueRight(y, 3, 3, 0, 0);
        y.dial(3, 1);
        dueRight(y, 0, NONE, NONE, NONE);
        y.dial(1, 3);
        y.told(5, 100000, 0);
        dueRight(y, 0, NONE, NONE, NONE);
        y.told(6, 100000, 0);
        dueRight(y, 3, 2, 0, 0);
        // at LINE 3's s = 0 all three SEE, from s = 1 on LINE 2's doesn't
        y.told(1, 100000, 0);
        y.dial(1, 40);
        y.dial(2, 1);
        y.dial(3, 1);
        dueRight(y, 3, 3, 0, 0);
        // LINE 3's waits 3 at s = 0 and 18 behind it, where LINE 2's is blind: LINE 1's is its neighbour
        y.corner(1, 10, 6);
        y.corner(1, 50, 1);
        y.breaker(3, 1, 3, 10);
        y.dial(2, 2);
        y.dial(1, 4);
        dueRight(y, 0, NONE, NONE, NONE);
        y.told(2, 100000, 0);
        dueRight(y, 0, NONE, NONE, NONE);
        y.told(3, 100000, 0);
        dueRight(y, 3, 3, 1, 0);
        y.told(1, 100000, 0);
        y.dial(1, 3);
        dueRight(y, 3, 3, 1, 0);
    }

    private static void rightOfLoads() {
        promise = 16;
        BreakerRows x = twoInARow();
        x.load(0, 1000);
        x.load(1, 9);
        dueRight(x, 0, NONE, NONE, NONE);
        x.load(2, 1);
        dueRight(x, 4, 1, NONE, NONE);
        x.breaker(1, 0, 2, 20);
        x.load(2, 10);
        dueRight(x, 4, 2, NONE, NONE);
        // what isn't RIGHT of a LINE comes ahead
        x.line(2, 1);
        x.breaker(3, 5, 1, 1);
        dueRight(x, 2, 3, 0, 0);
        x.load(2, 9);
        x.remove(3);
        dueRight(x, 0, NONE, NONE, NONE);
    }

    private static void fit() {
        promise = 17;
        BreakerRows x = new BreakerRows();
        due(x.fit(), 0);
        x = twoInARow();
        x.dial(1, 40);
        x.dial(2, 40);
        due(x.fit(), 3);
        due(x.lineOf(1, 6), 2);
        due(x.lineOf(2, 6), 1);
        x.goal();
        // 39 times 2 is 78: a MARGIN of 78 just fits
        x.told(78, 100000, 0);
        due(x.fit(), 41);
        due(x.lineOf(1, 6), 40);
        due(x.lineOf(1, 9), 2);
        x.told(79, 100000, 0);
        due(x.fit(), NONE);
        due(x.lineOf(1, 6), 40);
        x.told(78, 79, 0);
        due(x.fit(), NONE);
        x.told(78, 80, 0);
        due(x.fit(), 41);
        // a LINE that none keeps, or a LOAD that is seen: none
        x.line(0, 1);
        due(x.fit(), NONE);
        x.breaker(3, 0, 9, 10);
        x.fails(3, true);
        due(x.fit(), 42);
        due(x.lineOf(3, 8), 1);
        x.load(3, 10);
        due(x.fit(), NONE);
        x.load(3, 9);
        due(x.fit(), 42);
        // the upper one waits for the greatest need of all below
        BreakerRows y = new BreakerRows();
        y.line(0, 1);
        y.line(1, 1);
        y.line(1, 1);
        y.line(3, 1);
        y.corner(0, 10, 10);
        y.corner(1, 10, 7);
        y.breaker(1, 1, 1, 10);
        y.breaker(2, 0, 1, 10);
        y.breaker(3, 1, 1, 10);
        y.breaker(4, 0, 1, 10);
        y.told(3, 100000, 5);
        due(y.fit(), 1 + 2 + 1 + 3);
        due(y.lineOf(4, 6), 1);
        due(y.lineOf(3, 6), 2);
        due(y.lineOf(2, 6), 1);
        due(y.lineOf(1, 6), 3);
        due(y.right(0), 0);
    }

    private static void arc() {
        promise = 18;
        BreakerRows x = twoInARow();
        due(x.arc(1, 0, 0), 1000L * 1000 * 4);
        due(x.arc(2, 7, 3), 16000L * 16000 * 2 / (278 * 278));
        due(x.arc(2, 16, 1000), NONE);
        x.fails(2, true);
        due(x.arc(2, 16, 0), 10000);
        int[][] bad = {{0, 0, 0}, {3, 0, 0}, {-1, 0, 0}, {LOW, 0, 0}, {HIGH, 0, 0}, {1, -1, 0}, {1, 17, 0},
            {1, LOW, 0}, {1, HIGH, 0}, {1, 0, -1}, {1, 0, 1001}, {1, 0, LOW}, {1, 0, HIGH}};
        for (int[] b : bad) {
            due(x.arc(b[0], b[1], b[2]), NONE);
        }
        BreakerRows y = new BreakerRows();
        y.source(10000, 1);
        y.line(0, 1);
        y.corner(0, 10, 1000);
        y.breaker(1, 0, 40, 1);
        due(y.arc(1, 0, 0), 4000000000000L);
        // the square of the fraction is cut, not the fraction
        y.source(19, 2);
        y.corner(1, 10, 1);
        y.breaker(1, 1, 4, 1);
        due(y.arc(1, 0, 0), 361);
        y.breaker(1, 1, 1, 1);
        due(y.arc(1, 0, 0), 90);
    }

    private static void worst() {
        promise = 19;
        BreakerRows x = new BreakerRows();
        due(x.worst(), 0);
        x.line(0, 9);
        due(x.worst(), NONE);
        x = twoInARow();
        due(x.worst(), 4000000);
        x.dial(1, 9);
        due(x.worst(), 9000000 * 2);
        x.fails(2, true);
        due(x.worst(), 18000000);
        x.fails(1, true);
        due(x.worst(), NONE);
        x.fails(2, false);
        due(x.worst(), NONE);
        // the greatest need not be the nearest: a slow CORNER behind a quick one
        BreakerRows y = new BreakerRows();
        y.line(0, 1);
        y.corner(0, 10, 1000);
        y.corner(0, 1000, 1);
        y.breaker(1, 0, 1, 10);
        due(y.worst(), 16000L * 16000 * 1000 / (17 * 17));
        y.told(1, 100000, 99);
        due(y.worst(), NONE);
        y.told(1, 100000, 98);
        due(y.worst(), 16000L * 16000 * 1000 / (17 * 17));
        // by LAST alone
        y.source(1000, 1);
        y.breaker(1, 0, 1, 1);
        due(y.arc(1, 16, 0), 250000);
        y.told(1, 100000, 9);
        due(y.arc(1, 0, 9), 10000);
        due(y.worst(), 16000L * 16000 * 1000 / (161 * 161));
    }

    private static void growth() {
        promise = 20;
        BreakerRows x = new BreakerRows();
        due(x.growth(), 100000);
        x = twoInARow();
        due(x.growth(), 100000);
        x.load(2, 1);
        due(x.growth(), 999);
        x.load(1, 2);
        due(x.growth(), 333);
        x.breaker(2, 0, 1, 1);
        due(x.growth(), 99);
        x.breaker(2, 6, 1, 1);
        due(x.growth(), 333);
        x.fails(1, true);
        due(x.growth(), 333);
        x.remove(1);
        due(x.growth(), 100000);
        x.breaker(2, 0, 1, 1000);
        due(x.growth(), 99999);
        x.breaker(2, 0, 1, 1001);
        due(x.growth(), 100000);
        x.breaker(2, 0, 1, 1);
        x.load(2, 1000);
        due(x.growth(), 0);
        x.load(2, 100);
        due(x.growth(), 0);
        x.load(2, 99);
        due(x.growth(), 1);
    }

    private static void goal() {
        promise = 21;
        BreakerRows x = new BreakerRows();
        due(x.goal(), 0);
        due(x.about(7), 1);
        x = twoInARow();
        x.line(2, 1);
        due(x.goal(), 2);
        due(x.lineOf(1, 9), 2);
        due(x.lineOf(2, 9), 1);
        due(x.lineOf(3, 9), NONE);
        x.dial(1, 5);
        due(x.lineOf(1, 9), 2);
        x.breaker(3, 0, 7, 10);
        due(x.goal(), 3);
        due(x.lineOf(1, 9), 5);
        due(x.lineOf(3, 9), 7);
        x.remove(1);
        x.remove(2);
        x.remove(3);
        due(x.about(7), 1);
        due(x.goal(), 0);
        due(x.about(7), 1);
    }

    private static void change() {
        promise = 22;
        BreakerRows x = twoInARow();
        due(x.change(), NONE);
        x.goal();
        due(x.change(), 0);
        x.dial(1, 9);
        x.dial(2, 3);
        due(x.change(), 2);
        due(x.step(0), 2);
        due(x.step(1), 1);
        due(x.lineOf(1, 6), 9);
        due(x.lineOf(2, 6), 3);
        x.goal();
        x.dial(1, 2);
        x.dial(2, 1);
        due(x.change(), 2);
        due(x.step(0), 1);
        due(x.step(1), 2);
        // not RIGHT at first: none, and what was kept stays
        x.dial(2, 2);
        due(x.change(), NONE);
        due(x.about(8), 2);
        due(x.step(0), 1);
        // not RIGHT at the end: none
        x.goal();
        x.dial(2, 1);
        due(x.change(), NONE);
        // not RIGHT at first though nothing is to change
        x.dial(2, 2);
        due(x.change(), NONE);
        due(x.about(8), 2);
        x.dial(2, 1);
        x.goal();
        due(x.change(), 0);
        due(x.about(8), 0);
        due(x.step(0), NONE);
        // a BREAKER that isn't in the GOAL keeps its DIAL
        x.breaker(2, 0, 1, 10);
        x.dial(1, 7);
        due(x.change(), 1);
        due(x.step(0), 1);
        x.dial(2, 6);
        due(x.change(), NONE);
        // the LIMIT counts on the way, too
        BreakerRows y = twoInARow();
        y.told(1, 10, 0);
        y.goal();
        y.dial(1, 5);
        due(y.change(), 1);
        y.dial(1, 6);
        due(y.change(), NONE);
    }

    /** A row of LINES at KNOT 0, each with its own BREAKER, and all DIALS free. */
    private static BreakerRows star(int lines) {
        BreakerRows x = new BreakerRows();
        x.corner(0, 10, 5);
        for (int k = 1; k <= lines; k++) {
            x.line(0, 1);
            x.breaker(k, 0, 1, 1);
        }
        return x;
    }

    private static void changeOfMany() {
        promise = 22;
        BreakerRows x = star(12);
        due(x.goal(), 12);
        for (int k = 12; k >= 3; k--) {
            x.dial(k, 2);
        }
        due(x.change(), 10);
        for (int i = 0; i < 10; i++) {
            due(x.step(i), i + 3);
        }
        x.dial(1, 2);
        due(x.change(), NONE);
        due(x.about(8), 10);
        x.dial(12, 1);
        due(x.change(), 10);
        due(x.step(0), 1);
        due(x.step(9), 11);
        // TICKS of 1 below, as quick as can be, are waited for, too
        BreakerRows z = new BreakerRows();
        z.line(0, 1);
        z.line(1, 1);
        z.corner(0, 10, 1);
        z.breaker(1, 0, 8, 1);
        z.breaker(2, 0, 4, 1);
        z.told(3, 100000, 0);
        z.goal();
        z.dial(1, 5);
        z.dial(2, 2);
        due(z.change(), 2);
        due(z.step(0), 1);
        z.goal();
        z.dial(1, 8);
        z.dial(2, 4);
        due(z.change(), 2);
        due(z.step(0), 2);
        // a long row must be let down from its end, and raised from its head
        BreakerRows y = new BreakerRows();
        y.corner(0, 10, 5);
        for (int k = 0; k < 10; k++) {
            y.line(k, 1);
            y.breaker(k + 1, 0, 10 - k, 1);
        }
        y.told(5, 100000, 0);
        due(y.right(0), 0);
        y.goal();
        for (int k = 0; k < 10; k++) {
            y.dial(k + 1, 11 - k);
        }
        due(y.change(), 10);
        for (int i = 0; i < 10; i++) {
            due(y.step(i), 10 - i);
        }
        y.goal();
        for (int k = 0; k < 10; k++) {
            y.dial(k + 1, 10 - k);
        }
        due(y.change(), 10);
        for (int i = 0; i < 10; i++) {
            due(y.step(i), i + 1);
        }
    }

    private static void step() {
        promise = 23;
        BreakerRows x = twoInARow();
        due(x.step(0), NONE);
        x.goal();
        x.dial(1, 9);
        x.dial(2, 3);
        x.change();
        due(x.step(0), 2);
        due(x.step(1), 1);
        due(x.step(2), NONE);
        due(x.step(-1), NONE);
        due(x.step(10), NONE);
        due(x.step(LOW), NONE);
        due(x.step(HIGH), NONE);
        // kept through all else
        x.goal();
        x.remove(1);
        x.remove(2);
        due(x.change(), NONE);
        due(x.step(0), 2);
        due(x.step(1), 1);
    }

    /** All thirty KNOTS in a row, with a BREAKER on each LINE. */
    private static void fullNet() {
        promise = 17;
        BreakerRows x = new BreakerRows();
        x.source(10000, 1);
        x.corner(0, 10, 10);
        for (int k = 1; k <= 29; k++) {
            x.line(k - 1, 1);
            x.breaker(k, 0, 40, 1);
        }
        due(x.dial(29, 39), true);
        due(x.lineOf(29, 6), 39);
        due(x.lineOf(29, 1), 29);
        due(x.lineOf(29, 2), 28);
        due(x.fit(), 29 * 30 / 2);
        due(x.lineOf(29, 6), 1);
        due(x.lineOf(1, 6), 29);
        due(x.right(0), 0);
        due(x.run(29, 16, 0), 10);
        due(x.ran(29, 0), 1);
        due(x.ran(29, 1), 1);
        due(x.ran(28, 1), 0);
        due(x.goal(), 29);
        due(x.dial(1, 40), true);
        due(x.change(), 1);
        due(x.load(29, 1), true);
        due(x.right(0), 4);
        due(x.growth(), 99);
        due(x.remove(29), true);
        due(x.about(1), 28);
        due(x.right(1), 1);
        due(x.load(29, 0), true);
        due(x.told(10, 100000, 1000), true);
        due(x.fit(), 28 * 29 / 2);
        due(x.told(21, 100000, 0), true);
        due(x.fit(), NONE);
    }

    private static void about() {
        promise = 24;
        BreakerRows x = twoInARow();
        x.source(77, 88);
        x.told(5, 6, 7);
        int[] want = {3, 2, 77, 88, 5, 6, 7, 0, 0};
        for (int what = 0; what < want.length; what++) {
            due(x.about(what), want[what]);
        }
        x.goal();
        due(x.about(7), 1);
        due(x.about(9), NONE);
        due(x.about(-1), NONE);
        due(x.about(LOW), NONE);
        due(x.about(HIGH), NONE);
        x.remove(1);
        due(x.about(1), 1);
        BreakerRows y = star(29);
        due(y.about(0), 30);
        due(y.about(1), 29);
    }
}
