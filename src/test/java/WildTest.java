import java.util.Random;

/** Any arguments in any state: no call throws, and a refused call changes nothing that can be asked. */
public final class WildTest {
    private static final int[] EDGES = {Integer.MIN_VALUE, Integer.MIN_VALUE + 1, -33, -32, -31, -2, -1, 0, 1, 2, 7, 8,
        9, 10, 15, 16, 17, 28, 29, 30, 31, 32, 33, 40, 41, 64, 999, 1000, 1001, 9999, 10000, 10001, 100000, 100001,
        Integer.MAX_VALUE - 1, Integer.MAX_VALUE};

    private final Random draw;
    private final BreakerRows x = new BreakerRows();

    private WildTest(int seed) {
        draw = new Random(seed);
    }

    private int any() {
        switch (draw.nextInt(3)) {
            case 0: return EDGES[draw.nextInt(EDGES.length)];
            case 1: return draw.nextInt(30);
            default: return 1 + draw.nextInt(40);
        }
    }

    private long call() {
        switch (draw.nextInt(23)) {
            case 0: return x.source(any(), any()) ? 1 : 0;
            case 1: return x.line(any(), any());
            case 2: return x.load(any(), any()) ? 1 : 0;
            case 3: return x.corner(any(), any(), any());
            case 4: return x.breaker(any(), any(), any(), any()) ? 1 : 0;
            case 5: return x.remove(any()) ? 1 : 0;
            case 6: return x.dial(any(), any()) ? 1 : 0;
            case 7: return x.fails(any(), draw.nextBoolean()) ? 1 : 0;
            case 8: return x.told(any(), any(), any()) ? 1 : 0;
            case 9: return x.lineOf(any(), any());
            case 10: return x.fault(any(), any(), any(), any());
            case 11: return x.waits(any(), any(), any(), any());
            case 12: return x.run(any(), any(), any());
            case 13: return x.ran(any(), any());
            case 14: return x.right(any());
            case 15: return x.fit();
            case 16: return x.arc(any(), any(), any());
            case 17: return x.worst();
            case 18: return x.growth();
            case 19: return x.goal();
            case 20: return x.change();
            case 21: return x.step(any());
            default: return x.about(any());
        }
    }

    private void fill() {
        int lines = draw.nextInt(30);
        for (int k = 0; k < lines; k++) {
            x.line(draw.nextInt(k + 1), 1 + draw.nextInt(1000));
            x.breaker(k + 1, draw.nextInt(8), 1 + draw.nextInt(40), 1 + draw.nextInt(10000));
        }
        for (int c = 0; c < 8; c++) {
            for (int i = 0; i < draw.nextInt(9); i++) {
                x.corner(c, 10 + 100 * i, 1000 - 100 * i);
            }
        }
    }

    private long go() {
        fill();
        long all = 0;
        for (int i = 0; i < 512; i++) {
            long got = call();
            if (got < -1) {
                throw new IllegalStateException("an answer under NONE: " + got);
            }
            all = 31 * all + got;
        }
        return all;
    }

    /** A full net, ten LINES to change, and an end that isn't RIGHT: a search through all orders ends late. */
    private static boolean dearestEnds() {
        BreakerRows x = new BreakerRows();
        x.source(10000, 1);
        for (int i = 0; i < 8; i++) {
            x.corner(0, 10 + 100 * i, 100 - i);
        }
        x.told(150, 100000, 1000);
        for (int k = 1; k <= 29; k++) {
            x.line(k > 20 ? k - 1 : 0, 1);
            x.breaker(k, 0, 1, 1);
        }
        x.fit();
        // LINES 20 and 21 may each be moved by one, not both
        int upper = x.lineOf(20, 6);
        int lower = x.lineOf(21, 6);
        moveTen(x, 2, upper, lower + 1);
        x.goal();
        moveTen(x, 1, upper + 1, lower);
        boolean none = x.right(0) == 0 && x.change() == -1;
        moveTen(x, 2, upper, lower);
        x.goal();
        moveTen(x, 1, upper + 1, lower);
        return none && x.change() == 9;
    }

    private static void moveTen(BreakerRows x, int dial, int upper, int lower) {
        for (int k = 1; k <= 8; k++) {
            x.dial(k, dial);
        }
        x.dial(20, upper);
        x.dial(21, lower);
    }

    public static void main(String[] args) {
        long first = 0;
        long again = 0;
        for (int seed = 1; seed <= 400; seed++) {
            first = 17 * first + new WildTest(seed).go();
            again = 17 * again + new WildTest(seed).go();
        }
        boolean ends = dearestEnds();
        System.out.println(first == again ? "no call threw" : "the same calls gave other answers");
        System.out.println(ends ? "the dearest change ends" : "the dearest change did not answer as due");
        if (first != again || !ends) {
            System.exit(1);
        }
    }
}
