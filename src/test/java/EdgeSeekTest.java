/** Boundary cases of the document, sentence by sentence: LEAST DIALS, Terms III and promises 17 to 24. */
public final class EdgeSeekTest {
    private static final int NONE = Edges.NONE;

    private EdgeSeekTest() {
    }

    public static void main(String[] args) {
        fitting();
        arcs();
        growing();
        goals();
        changing();
        steps();
        abouts();
        Edges.end();
    }

    private static void fitting() {
        Edges.says("LEAST DIALS: each is as low as can be", EdgeSeekTest::asLowAsCanBe);
        Edges.says("LEAST DIALS: all is RIGHT, just by the MARGIN", EdgeSeekTest::fitsJust);
        Edges.says("LEAST DIALS: the one above waits for each below", EdgeSeekTest::fitsAllBelow);
        Edges.says("LEAST DIALS: by each FAULT ASKED", EdgeSeekTest::fitsAllFaults);
        Edges.says("LEAST DIALS: by the first and the last place alone", EdgeSeekTest::fitsTheEnds);
        Edges.says("LEAST DIALS: up to 8 CORNERS", EdgeSeekTest::fitsTheLastCorner);
        Edges.says("LEAST DIALS: of those that SEE it, the next one below", EdgeSeekTest::fitsAcrossTheBlind);
        Edges.says("LEAST DIALS: TICKS (1 .. 1000", EdgeSeekTest::fitsLeastTicks);
        Edges.says("LEAST DIALS: DIAL (1 .. 40)", EdgeSeekTest::fitsFortyAtMost);
        Edges.says("LEAST DIALS: a full row", EdgeSeekTest::fitsAFullRow);
        Edges.says("LEAST DIALS: a full net that branches", EdgeSeekTest::fitsAFullNet);
        Edges.says("17: their sum", EdgeSeekTest::fitOfNothing);
        Edges.says("17: NONE: there are none, by 1 and 2", EdgeSeekTest::noFitUnkept);
        Edges.says("17: NONE: there are none, by 3", EdgeSeekTest::noFitByLimit);
        Edges.says("17: NONE: there are none, by 4", EdgeSeekTest::noFitByLoads);
        Edges.says("17: NONE, changing nothing", EdgeSeekTest::noFitChangesNothing);
        Edges.says("17: DIALS become LEAST DIALS, and no more", EdgeSeekTest::fitLeavesTheRest);
    }

    private static void arcs() {
        Edges.says("ARC: the square of its current, times the tick, cut", EdgeSeekTest::arcIsCut);
        Edges.says("ARC: the least and the greatest", EdgeSeekTest::arcEnds);
        Edges.says("18: NONE: it isn't cleared, and for others", EdgeSeekTest::arcNone);
        Edges.says("19: 0 without any", EdgeSeekTest::worstOfNothing);
        Edges.says("19: NONE if one isn't cleared", EdgeSeekTest::worstNone);
        Edges.says("19: The greatest ARC of FAULTS ASKED", EdgeSeekTest::worstAnywhere);
    }

    private static void growing() {
        Edges.says("GROWTH: the most at which no BREAKER SEES", EdgeSeekTest::growthJust);
        Edges.says("GROWTH: (100000 at most)", EdgeSeekTest::growthAtMost);
        Edges.says("GROWTH: none at all", EdgeSeekTest::growthOfZero);
        Edges.says("GROWTH: no BREAKER, no CORNER, no LOAD", EdgeSeekTest::growthOfNothing);
        Edges.says("GROWTH: no BREAKER of all", EdgeSeekTest::growthOfAll);
        Edges.says("20: growth() and RIGHT's 4 agree, and LOADS stay", EdgeSeekTest::growthAndRight);
    }

    private static void goals() {
        Edges.says("21: All DIALS at hand are the GOAL: how many", EdgeSeekTest::goalCounts);
        Edges.says("21: a GOAL of no DIALS is one", EdgeSeekTest::goalOfNothing);
        Edges.says("A GOAL: DIALS that are kept", EdgeSeekTest::goalIsKept);
        Edges.says("21: a new GOAL takes the place of the old", EdgeSeekTest::goalAgain);
    }

    private static void changing() {
        Edges.says("None, if there are more than 10 such LINES", EdgeSeekTest::tenAndEleven);
        Edges.says("LINES whose BREAKERS' DIALS are others in the GOAL", EdgeSeekTest::othersAlone);
        Edges.says("so that all is RIGHT at first", EdgeSeekTest::rightAtFirst);
        Edges.says("and behind each: the last", EdgeSeekTest::rightAtTheEnd);
        Edges.says("and behind each: on the way", EdgeSeekTest::rightBehindEach);
        Edges.says("and behind each: by the first and the last place alone", EdgeSeekTest::rightAtTheEnds);
        Edges.says("and behind each: the LIMIT", EdgeSeekTest::limitBehindEach);
        Edges.says("of all such orders the first by its LINES", EdgeSeekTest::firstByItsLines);
        Edges.says("22: no steps", EdgeSeekTest::changeOfNothing);
        Edges.says("22: NONE: no GOAL", EdgeSeekTest::changeWithoutGoal);
        Edges.says("22: a BREAKER that isn't in the GOAL keeps its DIAL", EdgeSeekTest::keepsItsDial);
        Edges.says("22: Nothing is changed", EdgeSeekTest::changeChangesNothing);
        Edges.says("22: NONE: refused: changes nothing", EdgeSeekTest::changeRefused);
    }

    private static void steps() {
        Edges.says("22: they are kept till it tells a number again", EdgeSeekTest::orderIsKept);
        Edges.says("23: NONE if there is none such", EdgeSeekTest::stepOthers);
        Edges.says("23: step i of ten", EdgeSeekTest::stepOfTen);
    }

    private static void abouts() {
        Edges.says("24: 0 KNOTS, 1 BREAKERS", EdgeSeekTest::aboutNet);
        Edges.says("24: 7 whether there is a GOAL (1, 0)", EdgeSeekTest::aboutGoal);
        Edges.says("24: 8 steps of THE ORDER that is kept (0)", EdgeSeekTest::aboutOrder);
        Edges.says("24: NONE for others", EdgeSeekTest::aboutOthers);
    }

    private static void dueDials(BreakerRows x, int... dials) {
        for (int k = 1; k <= dials.length; k++) {
            Edges.due(x.lineOf(k, 6), dials[k - 1]);
        }
    }

    // ---- LEAST DIALS and promise 17

    private static void asLowAsCanBe() {
        // from above and from below the same
        for (int dial : new int[] {1, 2, 40}) {
            BreakerRows x = Edges.pair(10, dial, 10, dial);
            Edges.due(x.fit(), 3);
            dueDials(x, 2, 1);
            Edges.due(x.fit(), 3);
            dueDials(x, 2, 1);
        }
        BreakerRows y = Edges.star(1);
        y.dial(1, 40);
        Edges.due(y.fit(), 1);
        dueDials(y, 1);
    }

    private static void fitsJust() {
        // 17 and 3 are two times 10; 17 and 4 need three times
        BreakerRows x = Edges.pair(10, 1, 17, 1);
        x.told(3, 100000, 0);
        Edges.due(x.fit(), 3);
        dueDials(x, 2, 1);
        Edges.allRight(x);
        x.told(4, 100000, 0);
        Edges.due(x.fit(), 4);
        dueDials(x, 3, 1);
        Edges.allRight(x);
        // with one less of any that is above 1 it isn't RIGHT
        x.dial(1, 2);
        Edges.dueRight(x, 3, 2, 0, 0);
        // just once: the upper one's TICKS are what the lower one's and the MARGIN are
        BreakerRows y = Edges.pair(18, 9, 17, 9);
        Edges.due(y.fit(), 2);
        dueDials(y, 1, 1);
    }

    private static void fitsAllBelow() {
        // 2 and 3 from KNOT 1, 4 from KNOT 3: 4 waits 5, 3 waits 2 times 4, 2 waits 11, 1 waits 12 by 3
        BreakerRows x = new BreakerRows();
        for (int from : new int[] {0, 1, 1, 3}) {
            x.line(from, 1);
        }
        int[] ticks = {3, 11, 4, 5};
        for (int k = 1; k <= 4; k++) {
            x.corner(k, 10, ticks[k - 1]);
            x.breaker(k, k, 40, 1);
        }
        Edges.due(x.fit(), 4 + 1 + 2 + 1);
        dueDials(x, 4, 1, 2, 1);
        Edges.allRight(x);
        // LINE 2's gone: 1 waits 9 by 3
        x.remove(2);
        Edges.due(x.fit(), 3 + 2 + 1);
        Edges.due(x.lineOf(1, 6), 3);
        Edges.none(x.lineOf(2, 6));
        // LINE 3's gone, too: 1 is LINE 4's neighbour, and waits 6
        x.remove(3);
        Edges.due(x.fit(), 2 + 1);
        Edges.due(x.lineOf(1, 6), 2);
    }

    private static void fitsAllFaults() {
        // by f = 0 both wait 2 times their DIALS, by LAST = 40 both 30; at LINE 2's s = 0 with 90 just still 30
        BreakerRows x = new BreakerRows();
        x.line(0, 9);
        x.line(1, 10);
        x.corner(0, 10, 30);
        x.corner(0, 50, 2);
        x.breaker(1, 0, 1, 10);
        x.breaker(2, 0, 1, 10);
        Edges.due(x.fit(), 3);
        x.told(1, 100000, 40);
        Edges.due(x.fit(), 3);
        // the lower one by a CURVE that is slow only by LAST: 50 and 1 by 30
        x.corner(1, 10, 50);
        x.corner(1, 50, 1);
        x.breaker(2, 1, 1, 10);
        Edges.due(x.fit(), 3);
        dueDials(x, 2, 1);
        x.told(1, 100000, 0);
        Edges.due(x.fit(), 2);
        dueDials(x, 1, 1);
        // slow at the last places alone, where LINE 1's is quick: 51 by 2
        x.breaker(2, 1, 1, 11);
        Edges.due(x.waits(2, 2, 13, 0), 1);
        Edges.due(x.waits(2, 2, 14, 0), 50);
        Edges.due(x.fit(), 27);
        dueDials(x, 26, 1);
    }

    /** LINE 2's waits 9 where it is seen by 50 (its last place), 1 before; LINE 1's 1 by 100 (its first), 5 behind. */
    private static BreakerRows slowAtTheEnds() {
        BreakerRows x = new BreakerRows();
        x.line(0, 9);
        x.line(1, 10);
        x.corner(0, 10, 9);
        x.corner(0, 501, 1);
        x.corner(1, 10, 5);
        x.corner(1, 1000, 1);
        x.breaker(1, 1, 1, 1);
        x.breaker(2, 0, 1, 1);
        return x;
    }

    private static void fitsTheEnds() {
        // at s = 0 LINE 1's needs 2 times 1, at s = 16 two times 5
        BreakerRows x = slowAtTheEnds();
        Edges.due(x.waits(1, 2, 0, 0), 1);
        Edges.due(x.waits(1, 2, 1, 0), 5);
        Edges.due(x.waits(2, 2, 15, 0), 1);
        Edges.due(x.waits(2, 2, 16, 0), 9);
        Edges.due(x.fit(), 3);
        x.told(2, 100000, 0);
        Edges.due(x.fit(), 4);
        dueDials(x, 3, 1);
        // at s = 16 alone: LINE 1's waits 5 everywhere
        x.corner(2, 10, 5);
        x.breaker(1, 2, 1, 1);
        x.told(1, 100000, 0);
        Edges.due(x.fit(), 3);
        dueDials(x, 2, 1);
        // at s = 0 alone: LINE 2's waits 1 everywhere
        x.corner(3, 10, 1);
        x.breaker(1, 1, 1, 1);
        x.breaker(2, 3, 1, 1);
        Edges.due(x.fit(), 3);
        dueDials(x, 2, 1);
        // no place above the first one is LINE 2's: LINE 1's is quick from 105 on, and 100 is what LINE 2 has at s = 0
        x.corner(4, 10, 5);
        x.corner(4, 210, 1);
        x.breaker(1, 4, 1, 5);
        Edges.due(x.fit(), 2);
        // nor one behind the last: LINE 2's is slow under 49 only
        x.corner(5, 10, 9);
        x.corner(5, 490, 1);
        x.breaker(1, 2, 1, 1);
        x.breaker(2, 5, 1, 1);
        Edges.due(x.fit(), 2);
    }

    private static void fitsTheLastCorner() {
        // all eight CORNERS are reached: 10 TICKS count for the upper one, and 10 for the lower one
        BreakerRows x = Edges.row(3);
        for (int i = 1; i <= 8; i++) {
            x.corner(0, 10 * i, 90 - 10 * i);
        }
        x.corner(1, 10, 15);
        x.breaker(1, 0, 9, 1);
        x.breaker(2, 1, 9, 1);
        x.breaker(3, 0, 9, 1);
        Edges.due(x.fit(), 4);
        dueDials(x, 2, 1, 1);
        // down from 4, 2, 1: 20 TICKS do not go above 30, so LINE 2's is first
        x.goal();
        x.dial(1, 4);
        x.dial(2, 2);
        Edges.dueOrder(x, 2, 1);
        // with seven reached it is 20: 1000 by 130 to 133 is under 8
        x.told(1, 100000, 129);
        Edges.due(x.fit(), 4 + 2 + 1);
        dueDials(x, 4, 2, 1);
    }

    private static void fitsAcrossTheBlind() {
        // LINE 2's is blind behind LINE 3's s = 0, so LINE 1's, by the last of eight CORNERS, waits for LINE 3's there
        BreakerRows x = Edges.pair(1, 9, 6, 9);
        x.line(2, 10);
        for (int i = 1; i <= 8; i++) {
            x.corner(3, 10 * i, 90 - 10 * i);
        }
        x.corner(4, 10, 5);
        x.breaker(1, 3, 3, 1);
        x.breaker(2, 2, 3, 50);
        x.breaker(3, 4, 3, 1);
        Edges.due(x.fit(), 3);
        x.goal();
        for (int k = 1; k <= 3; k++) {
            x.dial(k, 3);
        }
        Edges.dueOrder(x, 3, 2, 1);
        // LINE 3's is slow just there
        x.corner(5, 10, 40);
        x.corner(5, 500, 5);
        x.breaker(3, 5, 2, 1);
        Edges.due(x.fit(), 7);
        dueDials(x, 5, 1, 1);
        x.goal();
        x.dial(1, 9);
        x.dial(2, 2);
        x.dial(3, 2);
        Edges.dueOrder(x, 3, 1, 2);
    }

    private static void fitsLeastTicks() {
        BreakerRows x = Edges.pair(1, 9, 1, 9);
        Edges.due(x.fit(), 3);
        dueDials(x, 2, 1);
        x.told(39, 100000, 0);
        Edges.due(x.fit(), 41);
        x.told(40, 100000, 0);
        Edges.none(x.fit());
        BreakerRows y = Edges.pair(1000, 9, 1, 9);
        y.told(999, 100000, 0);
        Edges.due(y.fit(), 2);
        y.told(1000, 100000, 0);
        Edges.due(y.fit(), 3);
        BreakerRows z = Edges.pair(1, 9, 39, 9);
        Edges.due(z.fit(), 41);
        z.told(2, 100000, 0);
        Edges.none(z.fit());
    }

    private static void fitsFortyAtMost() {
        BreakerRows x = Edges.pair(10, 5, 10, 6);
        x.told(390, 100000, 0);
        Edges.due(x.fit(), 41);
        dueDials(x, 40, 1);
        Edges.allRight(x);
        x.told(391, 100000, 0);
        Edges.none(x.fit());
        dueDials(x, 40, 1);
        // far beyond: the greatest MARGIN, the least TICKS
        BreakerRows y = Edges.pair(1, 5, 1000, 6);
        y.told(10000, 100000, 0);
        Edges.none(y.fit());
        dueDials(y, 5, 6);
    }

    private static void fitsAFullRow() {
        BreakerRows x = Edges.row(29);
        x.corner(0, 10, 10);
        for (int k = 1; k <= 29; k++) {
            x.breaker(k, 0, 40, 1);
        }
        Edges.due(x.fit(), 29 * 30 / 2);
        Edges.due(x.lineOf(1, 6), 29);
        Edges.due(x.lineOf(29, 6), 1);
        Edges.allRight(x);
        x.told(10, 100000, 0);
        Edges.due(x.fit(), 29 * 30 / 2);
        // with 11 each is by 2 above the one below: 20 are 39, 21 would be 41
        x.told(11, 100000, 0);
        Edges.none(x.fit());
        for (int k = 29; k > 21; k--) {
            x.remove(k);
        }
        Edges.none(x.fit());
        x.remove(21);
        Edges.due(x.fit(), 20 * 20);
        Edges.due(x.lineOf(1, 6), 39);
        Edges.due(x.lineOf(20, 6), 1);
    }

    /** LINE k hangs from a KNOT by k and the turn; all BREAKERS SEE all, by eight CURVES of other TICKS. */
    private static void fitsAFullNet() {
        for (int turn = 1; turn <= 6; turn++) {
            BreakerRows x = new BreakerRows();
            x.source(10000, 1);
            int[] from = new int[30];
            int[] ticks = new int[8];
            for (int curve = 0; curve < 8; curve++) {
                ticks[curve] = 60 + 37 * curve * turn % 41;
                x.corner(curve, 10, ticks[curve]);
            }
            for (int k = 1; k <= 29; k++) {
                from[k] = Math.max(0, k - 1 - k * turn % 7);
                x.line(from[k], 1);
                x.breaker(k, k * turn % 8, 40, 1);
            }
            x.told(10 * turn, 100000, 0);
            int[] least = new int[30];
            int sum = 0;
            for (int k = 29; k >= 1; k--) {
                least[k] = Math.max(1, least[k]);
                sum += least[k];
                int above = from[k];
                int need = least[k] * ticks[k * turn % 8] + 10 * turn;
                int by = ticks[above * turn % 8];
                least[above] = Math.max(least[above], (need + by - 1) / by);
            }
            Edges.due(x.fit(), sum);
            for (int k = 1; k <= 29; k++) {
                Edges.due(x.lineOf(k, 6), least[k]);
            }
        }
    }

    private static void fitOfNothing() {
        BreakerRows x = new BreakerRows();
        Edges.due(x.fit(), 0);
        x.load(0, 1000);
        Edges.due(x.fit(), 0);
        BreakerRows y = Edges.star(29);
        Edges.due(y.fit(), 29);
        y.dial(29, 40);
        Edges.due(y.fit(), 29);
        dueDials(y, 1, 1, 1);
    }

    private static void noFitUnkept() {
        BreakerRows x = Edges.row(1);
        Edges.none(x.fit());
        x.breaker(1, 0, 7, 1);
        Edges.none(x.fit());
        Edges.due(x.lineOf(1, 6), 7);
        x.corner(0, 10, 5);
        Edges.due(x.fit(), 1);
        // one place, by LAST, that isn't seen: 1000 by 2 + 998
        x.dial(1, 7);
        x.told(1, 100000, 998);
        Edges.due(x.fit(), 1);
        x.dial(1, 7);
        x.told(1, 100000, 999);
        Edges.none(x.fit());
        Edges.due(x.lineOf(1, 6), 7);
    }

    private static void noFitByLimit() {
        BreakerRows x = Edges.pair(10, 7, 10, 8);
        x.told(10, 20, 0);
        Edges.due(x.fit(), 3);
        x.dial(1, 7);
        x.told(10, 19, 0);
        Edges.none(x.fit());
        dueDials(x, 7, 1);
        x.told(1, 9, 0);
        Edges.none(x.fit());
        // by the lower one alone: LINE 1's waits 100, but at FAULTS that it keeps 2
        BreakerRows y = new BreakerRows();
        y.line(0, 9);
        y.line(1, 10);
        y.corner(0, 10, 100);
        y.corner(0, 1000, 2);
        y.corner(1, 10, 50);
        y.corner(1, 600, 1);
        y.breaker(1, 0, 7, 1);
        y.breaker(2, 1, 8, 1);
        y.told(1, 49, 0);
        Edges.none(y.fit());
        dueDials(y, 7, 8);
        y.told(1, 50, 0);
        Edges.due(y.fit(), 2);
        dueDials(y, 1, 1);
    }

    private static void noFitByLoads() {
        BreakerRows x = Edges.one(9, 10);
        x.corner(0, 10, 5);
        x.load(1, 10);
        Edges.none(x.fit());
        Edges.due(x.lineOf(1, 6), 9);
        x.load(1, 9);
        Edges.due(x.fit(), 1);
    }

    private static BreakerRows richTold(int margin, int limit, int last) {
        BreakerRows x = Edges.rich();
        x.told(margin, limit, last);
        x.run(4, 5, 6);
        return x;
    }

    private static void noFitChangesNothing() {
        Edges.refused(() -> richTold(10000, 50000, 4), x -> x.fit() == NONE);
        Edges.refused(() -> richTold(3, 1, 4), x -> x.fit() == NONE);
        Edges.refused(() -> richTold(3, 50000, 1000), x -> x.fit() == NONE);
    }

    private static void fitLeavesTheRest() {
        BreakerRows x = Edges.rich();
        Edges.due(x.fit(), 7);
        dueDials(x, 5, 1, 1);
        // the GOAL, who FAILS, THE ORDER that is kept, LOADS
        Edges.due(x.lineOf(1, 9), 5);
        Edges.due(x.lineOf(2, 9), 2);
        Edges.due(x.lineOf(3, 9), 1);
        Edges.due(x.lineOf(3, 8), 1);
        Edges.due(x.about(8), 2);
        Edges.due(x.step(0), 2);
        Edges.due(x.lineOf(1, 3), 3);
        Edges.due(x.lineOf(1, 5), 0);
        Edges.due(x.lineOf(1, 7), 10);
    }

    // ---- ARC and promises 18, 19

    private static void arcIsCut() {
        // 19 by 2, squared 90.25: times 1, 2, 3, 4
        BreakerRows x = Edges.one(1, 1);
        x.source(19, 2);
        x.corner(0, 10, 1);
        int[] want = {90, 180, 270, 361};
        for (int dial = 1; dial <= 4; dial++) {
            x.dial(1, dial);
            Edges.due(x.arc(1, 0, 0), want[dial - 1]);
        }
        // 1999 by 1000 squared is 3.996001: 250 times it is 999.00025
        x.source(1999, 1000);
        Edges.due(x.arc(1, 0, 0), 15);
        x.corner(1, 10, 250);
        x.breaker(1, 1, 1, 1);
        Edges.due(x.arc(1, 0, 0), 999);
    }

    private static void arcEnds() {
        BreakerRows x = Edges.one(1, 1);
        x.source(1, 1);
        x.corner(0, 10, 1);
        Edges.due(x.arc(1, 0, 0), 1);
        x.source(10000, 1);
        x.corner(1, 10, 1000);
        x.breaker(1, 1, 40, 1);
        Edges.due(x.arc(1, 0, 0), 4000000000000L);
        Edges.due(x.worst(), 4000000000000L);
        Edges.due(x.arc(1, 16, 1000), 160000L * 160000 * 40000 / (16160L * 16160));
    }

    private static void arcNone() {
        BreakerRows x = Edges.pair(10, 1, 1, 1);
        Edges.due(x.arc(2, 0, 990), 1);
        Edges.none(x.arc(2, 1, 990));
        for (int k : Edges.outside(1, 2)) {
            Edges.none(x.arc(k, 0, 0));
        }
        // it is the tick at which it is cleared: one that FAILS doesn't count
        Edges.due(x.arc(2, 0, 0), 10000);
        x.fails(2, true);
        Edges.due(x.arc(2, 0, 0), 100000);
        x.fails(1, true);
        Edges.none(x.arc(2, 0, 0));
        Edges.none(new BreakerRows().arc(0, 0, 0));
        // the upper one's tick, if it is the less
        BreakerRows y = Edges.pair(3, 1, 10, 1);
        Edges.due(y.arc(2, 0, 0), 30000);
    }

    private static void worstOfNothing() {
        BreakerRows x = new BreakerRows();
        Edges.due(x.worst(), 0);
        x.told(1, 1, 1000);
        x.corner(0, 10, 1);
        Edges.due(x.worst(), 0);
        x.line(0, 1);
        Edges.none(x.worst());
    }

    private static void worstNone() {
        // LINE 2's last place, by LAST: 1000 by 20 + 30 is 20
        BreakerRows x = Edges.pair(10, 1, 1, 1);
        x.breaker(1, 1, 1, 20);
        x.breaker(2, 2, 1, 20);
        x.told(1, 100000, 30);
        Edges.due(x.worst(), 10000000);
        x.told(1, 100000, 31);
        Edges.none(x.worst());
        x.told(1, 100000, 30);
        x.breaker(2, 2, 1, 21);
        Edges.due(x.worst(), 10000000);
        x.fails(1, true);
        Edges.none(x.worst());
        // it need not be RIGHT
        BreakerRows y = Edges.pair(1, 1, 10, 1);
        Edges.dueRight(y, 3, 2, 0, 0);
        Edges.due(y.worst(), 1000000);
        y.line(0, 1);
        Edges.none(y.worst());
    }

    private static void worstAnywhere() {
        // at LINE 1's first place: 1000 squared
        BreakerRows x = Edges.pair(2, 1, 1, 1);
        Edges.due(x.worst(), 2000000);
        // at LINE 2's first: 100 squared, but by 300 ticks; LINE 1's is quick down to its end
        BreakerRows y = new BreakerRows();
        y.line(0, 9);
        y.line(1, 10);
        y.corner(0, 10, 1000);
        y.corner(0, 1000, 1);
        y.breaker(1, 0, 1, 1);
        Edges.due(y.worst(), 256000000L * 1000 / (170L * 170));
        // at a last place: slow there alone
        BreakerRows z = Edges.one(1, 1);
        z.source(999, 1);
        z.corner(0, 10, 1000);
        z.corner(0, 1000, 1);
        Edges.due(z.worst(), 998001L * 256 * 1000 / (160L * 160));
        // by LAST alone: there it is slow from s = 0 on
        z.source(1000, 1);
        Edges.due(z.worst(), 1000000);
        z.told(1, 100000, 9);
        Edges.due(z.worst(), 256000000L * 1000 / (169L * 169));
    }

    // ---- GROWTH and promise 20

    private static void growthJust() {
        // LOAD 1, seen from 1.0 times 1 on: 99 hundredths are the most
        BreakerRows x = Edges.star(1);
        x.load(1, 1);
        Edges.due(x.growth(), 99);
        x.load(1, 3);
        Edges.due(x.growth(), 33);
        x.load(1, 7);
        Edges.due(x.growth(), 14);
        // seen from 1.1 times 10 on, which is 11
        x.corner(1, 11, 5);
        x.breaker(1, 1, 1, 10);
        x.load(1, 11);
        Edges.due(x.growth(), 99);
        x.load(1, 10);
        Edges.due(x.growth(), 109);
        x.load(1, 12);
        Edges.due(x.growth(), 91);
    }

    private static void growthAtMost() {
        BreakerRows x = Edges.star(1);
        x.load(1, 1);
        x.breaker(1, 0, 1, 1000);
        Edges.due(x.growth(), 99999);
        x.breaker(1, 0, 1, 1001);
        Edges.due(x.growth(), 100000);
        x.breaker(1, 0, 1, 10000);
        Edges.due(x.growth(), 100000);
        x.corner(1, 1000, 1);
        x.breaker(1, 1, 1, 10000);
        Edges.due(x.growth(), 100000);
        x.load(1, 1000);
        Edges.due(x.growth(), 99999);
        x.load(1, 999);
        Edges.due(x.growth(), 100000);
    }

    private static void growthOfZero() {
        BreakerRows x = Edges.star(1);
        x.load(1, 99);
        Edges.due(x.growth(), 1);
        x.load(1, 100);
        Edges.due(x.growth(), 0);
        x.load(1, 1000);
        Edges.due(x.growth(), 0);
        // the greatest current by LOADS
        BreakerRows y = Edges.row(29);
        y.corner(0, 1000, 1);
        y.corner(1, 10, 1);
        for (int k = 1; k <= 29; k++) {
            y.load(k, 1000);
        }
        y.breaker(1, 0, 1, 10000);
        Edges.due(y.growth(), 3448);
        y.breaker(1, 1, 1, 1);
        Edges.due(y.growth(), 0);
    }

    private static void growthOfNothing() {
        BreakerRows x = new BreakerRows();
        Edges.due(x.growth(), 100000);
        x.load(0, 1000);
        x.line(0, 1);
        x.load(1, 1000);
        Edges.due(x.growth(), 100000);
        x.breaker(1, 0, 1, 1);
        Edges.due(x.growth(), 100000);
        x.corner(0, 10, 1);
        Edges.due(x.growth(), 0);
        x.load(1, 0);
        Edges.due(x.growth(), 100000);
        x.load(1, 1000);
        x.remove(1);
        Edges.due(x.growth(), 100000);
    }

    private static void growthOfAll() {
        // the least of all, wherever it stands; one that FAILS still SEES
        for (int least = 1; least <= 3; least++) {
            BreakerRows x = Edges.star(3);
            for (int k = 1; k <= 3; k++) {
                x.load(k, k == least ? 5 : 4);
            }
            Edges.due(x.growth(), 19);
            x.fails(least, true);
            Edges.due(x.growth(), 19);
            x.remove(least);
            Edges.due(x.growth(), 24);
        }
    }

    private static void growthAndRight() {
        BreakerRows x = Edges.star(1);
        x.breaker(1, 0, 1, 50);
        for (int load = 48; load <= 52; load++) {
            x.load(1, load);
            Edges.due(x.growth() >= 100 ? 0 : 4, x.right(0));
            Edges.due(x.lineOf(1, 3), load);
        }
        x.load(1, 50);
        Edges.due(x.growth(), 99);
        x.load(1, 49);
        Edges.due(x.growth(), 102);
    }

    // ---- GOAL and promise 21

    private static void goalCounts() {
        BreakerRows x = Edges.star(29);
        Edges.due(x.goal(), 29);
        x.remove(1);
        x.remove(29);
        Edges.due(x.goal(), 27);
        Edges.due(x.lineOf(28, 9), 1);
        Edges.none(x.lineOf(29, 9));
        BreakerRows y = Edges.row(29);
        y.breaker(29, 0, 40, 1);
        Edges.due(y.goal(), 1);
        Edges.due(y.lineOf(29, 9), 40);
    }

    private static void goalOfNothing() {
        BreakerRows x = new BreakerRows();
        Edges.due(x.goal(), 0);
        Edges.due(x.about(7), 1);
        Edges.due(x.change(), 0);
        BreakerRows y = Edges.row(2);
        Edges.due(y.goal(), 0);
        Edges.due(y.about(7), 1);
        // one that comes later isn't in it
        y.corner(0, 10, 5);
        y.breaker(1, 0, 3, 1);
        Edges.none(y.lineOf(1, 9));
        Edges.due(y.change(), 0);
    }

    private static void goalIsKept() {
        BreakerRows x = Edges.star(2);
        x.dial(1, 40);
        Edges.due(x.goal(), 2);
        x.dial(1, 3);
        x.fit();
        x.source(2000, 2);
        x.told(1, 99999, 0);
        x.fails(1, true);
        x.load(1, 0);
        x.line(0, 1);
        x.breaker(3, 0, 1, 1);
        x.remove(3);
        Edges.due(x.lineOf(1, 9), 40);
        Edges.due(x.lineOf(2, 9), 1);
        Edges.due(x.about(7), 1);
    }

    private static void goalAgain() {
        BreakerRows x = Edges.star(2);
        x.goal();
        x.dial(1, 9);
        Edges.due(x.goal(), 2);
        Edges.due(x.lineOf(1, 9), 9);
        Edges.due(x.change(), 0);
        x.breaker(2, 0, 4, 1);
        Edges.none(x.lineOf(2, 9));
        Edges.due(x.goal(), 2);
        Edges.due(x.lineOf(2, 9), 4);
        // a GOAL of no DIALS in place of one of two
        x.remove(1);
        x.remove(2);
        Edges.due(x.goal(), 0);
        Edges.due(x.about(7), 1);
    }

    // ---- THE ORDER and promise 22

    private static BreakerRows starWithGoal(int lines, int others) {
        BreakerRows x = Edges.star(lines);
        x.goal();
        for (int k = lines; k > lines - others; k--) {
            x.dial(k, 2);
        }
        return x;
    }

    private static void tenAndEleven() {
        Edges.dueOrder(starWithGoal(29, 9), 21, 22, 23, 24, 25, 26, 27, 28, 29);
        Edges.dueOrder(starWithGoal(29, 10), 20, 21, 22, 23, 24, 25, 26, 27, 28, 29);
        for (int others = 11; others <= 29; others += 9) {
            BreakerRows x = starWithGoal(29, others);
            Edges.none(x.change());
            Edges.due(x.about(8), 0);
            Edges.none(x.step(0));
        }
        // back to ten: one of the eleven has its DIAL of the GOAL already
        BreakerRows y = starWithGoal(11, 11);
        Edges.none(y.change());
        y.dial(6, 1);
        Edges.dueOrder(y, 1, 2, 3, 4, 5, 7, 8, 9, 10, 11);
    }

    private static void othersAlone() {
        BreakerRows x = Edges.star(4);
        x.goal();
        Edges.dueOrder(x);
        x.dial(3, 2);
        Edges.dueOrder(x, 3);
        x.dial(1, 2);
        Edges.dueOrder(x, 1, 3);
        // the same DIAL again is no other
        x.dial(3, 1);
        x.dial(4, 1);
        Edges.dueOrder(x, 1);
        // those that are not in the GOAL do not count among the ten
        BreakerRows y = starWithGoal(12, 12);
        Edges.none(y.change());
        y.breaker(1, 0, 7, 1);
        Edges.none(y.change());
        y.breaker(2, 0, 7, 1);
        Edges.dueOrder(y, 3, 4, 5, 6, 7, 8, 9, 10, 11, 12);
    }

    private static void rightAtFirst() {
        // by each of the four, with one step or none
        BreakerRows x = Edges.star(2);
        x.goal();
        x.line(0, 1);
        Edges.none(x.change());
        x.breaker(3, 7, 1, 1);
        Edges.none(x.change());
        x.breaker(3, 0, 1, 1);
        Edges.dueOrder(x);
        x.dial(1, 2);
        x.told(1, 5, 0);
        Edges.none(x.change());
        x.told(1, 10, 0);
        Edges.dueOrder(x, 1);
        x.load(3, 1);
        Edges.none(x.change());
        x.dial(1, 1);
        Edges.none(x.change());
        x.load(3, 0);
        Edges.dueOrder(x);
        // the change itself would make it RIGHT: none all the same
        BreakerRows y = Edges.pair(10, 2, 10, 1);
        y.goal();
        y.dial(1, 1);
        Edges.none(y.change());
    }

    private static void rightAtTheEnd() {
        BreakerRows x = Edges.pair(10, 2, 10, 2);
        Edges.dueRight(x, 3, 2, 0, 0);
        x.goal();
        x.dial(1, 3);
        Edges.allRight(x);
        Edges.none(x.change());
        x.dial(2, 1);
        Edges.none(x.change());
        // just RIGHT at the end
        x.dial(1, 2);
        x.dial(2, 1);
        x.goal();
        x.dial(1, 3);
        Edges.dueOrder(x, 1);
        x.told(10, 100000, 0);
        Edges.dueOrder(x, 1);
        x.told(11, 100000, 0);
        Edges.none(x.change());
    }

    private static void rightBehindEach() {
        // down: the lower one first; up: the upper one; with a MARGIN more room either may
        BreakerRows x = Edges.pair(10, 2, 10, 1);
        x.goal();
        x.dial(1, 3);
        x.dial(2, 2);
        Edges.dueOrder(x, 2, 1);
        x.goal();
        x.dial(1, 2);
        x.dial(2, 1);
        Edges.dueOrder(x, 1, 2);
        x.dial(1, 4);
        x.dial(2, 2);
        Edges.dueOrder(x, 1);
        // just by the MARGIN: behind LINE 1's step 30 is 20 and 10
        BreakerRows y = Edges.pair(10, 3, 10, 1);
        y.told(10, 100000, 0);
        y.goal();
        y.dial(1, 4);
        y.dial(2, 2);
        Edges.dueOrder(y, 1, 2);
        y.told(11, 100000, 0);
        Edges.dueOrder(y, 2, 1);
        // seen by LAST alone: at 90 ohms more both SEE, and the lower one is slow
        BreakerRows z = Edges.pair(10, 4, 1, 1);
        z.corner(3, 10, 20);
        z.corner(3, 500, 1);
        z.breaker(2, 3, 1, 1);
        z.goal();
        z.dial(1, 8);
        z.dial(2, 3);
        Edges.dueOrder(z, 1, 2);
        z.told(1, 100000, 90);
        Edges.dueOrder(z, 2, 1);
        // the least TICKS
        BreakerRows u = Edges.pair(1, 2, 1, 1);
        u.goal();
        u.dial(1, 3);
        u.dial(2, 2);
        Edges.dueOrder(u, 2, 1);
    }

    private static void rightAtTheEnds() {
        // at s = 16 alone LINE 2's is slow: LINE 1's goes down from 4 to 3 only behind LINE 2's from 2 to 1
        BreakerRows x = slowAtTheEnds();
        x.corner(2, 10, 5);
        x.breaker(1, 2, 3, 1);
        x.goal();
        x.dial(1, 4);
        x.dial(2, 2);
        Edges.dueOrder(x, 2, 1);
        // at s = 0 alone LINE 1's is quick
        x.corner(3, 10, 1);
        x.breaker(1, 1, 2, 1);
        x.breaker(2, 3, 1, 1);
        x.goal();
        x.dial(1, 3);
        x.dial(2, 2);
        Edges.dueOrder(x, 2, 1);
    }

    private static void limitBehindEach() {
        BreakerRows x = Edges.star(2);
        x.dial(1, 4);
        x.goal();
        x.dial(1, 1);
        x.dial(2, 3);
        x.told(1, 20, 0);
        Edges.dueOrder(x, 1, 2);
        x.told(1, 19, 0);
        Edges.none(x.change());
        Edges.due(x.about(8), 2);
        // at first above the LIMIT, at the end not
        x.told(1, 20, 0);
        x.goal();
        x.dial(1, 5);
        Edges.none(x.change());
        x.told(1, 25, 0);
        Edges.dueOrder(x, 1);
        // by the TICKS at hand, not by those of another CURVE at an earlier change()
        x.corner(1, 10, 1);
        x.breaker(1, 1, 20, 1);
        Edges.due(x.goal(), 2);
        x.dial(1, 21);
        Edges.dueOrder(x, 1);
    }

    private static void firstByItsLines() {
        // 1 and 2 from KNOT 0, 3 from KNOT 1: down, 3 goes ahead of 1, and 2 ahead of both
        BreakerRows x = Edges.star(2);
        x.line(1, 1);
        x.breaker(3, 0, 1, 1);
        x.dial(1, 2);
        x.goal();
        x.dial(1, 3);
        x.dial(2, 2);
        x.dial(3, 2);
        Edges.dueOrder(x, 2, 3, 1);
        // up: all as their numbers are
        x.goal();
        x.dial(1, 2);
        x.dial(2, 1);
        x.dial(3, 1);
        Edges.dueOrder(x, 1, 2, 3);
        // 2 from KNOT 1, 3 from KNOT 0: 1 goes as soon as 2 has gone, ahead of 3
        BreakerRows y = Edges.star(1);
        y.line(1, 1);
        y.line(0, 1);
        y.breaker(2, 0, 1, 1);
        y.breaker(3, 0, 1, 1);
        y.dial(1, 2);
        y.goal();
        y.dial(1, 3);
        y.dial(2, 2);
        y.dial(3, 2);
        Edges.dueOrder(y, 2, 1, 3);
        // a row of ten: down from its end, up from its head
        BreakerRows z = Edges.row(10);
        z.corner(0, 10, 5);
        for (int k = 1; k <= 10; k++) {
            z.breaker(k, 0, 11 - k, 1);
        }
        z.goal();
        for (int k = 1; k <= 10; k++) {
            z.dial(k, 12 - k);
        }
        Edges.dueOrder(z, 10, 9, 8, 7, 6, 5, 4, 3, 2, 1);
        z.goal();
        for (int k = 1; k <= 10; k++) {
            z.dial(k, 11 - k);
        }
        Edges.dueOrder(z, 1, 2, 3, 4, 5, 6, 7, 8, 9, 10);
    }

    private static void changeOfNothing() {
        BreakerRows x = new BreakerRows();
        x.goal();
        Edges.dueOrder(x);
        BreakerRows y = Edges.star(3);
        y.goal();
        Edges.dueOrder(y);
        // not RIGHT, and nothing to change: none
        y.line(0, 1);
        Edges.none(y.change());
    }

    private static void changeWithoutGoal() {
        Edges.none(new BreakerRows().change());
        BreakerRows x = Edges.star(2);
        Edges.allRight(x);
        Edges.none(x.change());
        Edges.due(x.about(8), 0);
        x.goal();
        Edges.dueOrder(x);
    }

    private static void keepsItsDial() {
        // LINE 2's isn't in the GOAL: with its DIAL of 2 LINE 1's can't go down to 2, with 1 it can
        BreakerRows x = Edges.pair(10, 2, 10, 1);
        x.goal();
        x.breaker(2, 2, 2, 1);
        x.dial(1, 3);
        Edges.none(x.change());
        x.dial(2, 1);
        Edges.dueOrder(x, 1);
        Edges.none(x.lineOf(2, 9));
        // all of them are new: nothing to change
        x.breaker(1, 1, 9, 1);
        Edges.dueOrder(x);
        x.dial(1, 8);
        Edges.dueOrder(x);
    }

    private static void changeChangesNothing() {
        BreakerRows x = Edges.rich();
        Edges.dueOrder(x, 2, 3, 1);
        dueDials(x, 20, 6, 2);
        Edges.due(x.lineOf(1, 9), 5);
        Edges.due(x.lineOf(2, 9), 2);
        Edges.due(x.lineOf(3, 9), 1);
        Edges.due(x.ran(4, 1), 1);
        Edges.due(x.lineOf(3, 8), 1);
        Edges.due(x.about(7), 1);
        // and again the same
        Edges.dueOrder(x, 2, 3, 1);
    }

    private static void changeRefused() {
        // not RIGHT at first, at the end, at first by a LOAD; without a GOAL; eleven LINES
        Edges.refused(() -> richTold(100, 50000, 4), x -> x.change() == NONE);
        Edges.refused(() -> richTold(8, 50000, 4), x -> x.change() == NONE);
        Edges.refused(() -> {
            BreakerRows x = Edges.rich();
            x.load(3, 1000);
            x.run(4, 5, 6);
            return x;
        }, x -> x.change() == NONE);
        Edges.refused(() -> Edges.star(3), x -> x.change() == NONE);
        Edges.refused(() -> starWithGoal(11, 11), x -> x.change() == NONE);
    }

    // ---- promises 22 to 24

    private static void orderIsKept() {
        BreakerRows x = Edges.rich();
        x.source(1000, 1);
        x.line(0, 1);
        x.load(1, 1);
        x.corner(7, 10, 1);
        x.breaker(5, 0, 1, 1);
        x.dial(1, 1);
        x.fails(1, true);
        x.told(1, 1, 1);
        x.remove(1);
        x.remove(2);
        x.goal();
        x.fit();
        Edges.none(x.change());
        Edges.due(x.about(8), 2);
        Edges.due(x.step(0), 2);
        Edges.due(x.step(1), 1);
        Edges.none(x.step(2));
        // a longer one by a shorter one, and by none at all
        BreakerRows y = Edges.star(3);
        y.goal();
        y.dial(1, 2);
        y.dial(2, 2);
        y.dial(3, 2);
        Edges.dueOrder(y, 1, 2, 3);
        y.dial(1, 1);
        y.dial(2, 1);
        Edges.dueOrder(y, 3);
        Edges.none(y.step(2));
        y.dial(3, 1);
        Edges.dueOrder(y);
    }

    private static void stepOthers() {
        BreakerRows x = new BreakerRows();
        Edges.none(x.step(0));
        x = Edges.rich();
        for (int i : Edges.outside(0, 1)) {
            Edges.none(x.step(i));
        }
        Edges.due(x.step(0), 2);
        Edges.due(x.step(1), 1);
    }

    private static void stepOfTen() {
        BreakerRows x = starWithGoal(29, 10);
        Edges.due(x.change(), 10);
        Edges.due(x.step(0), 20);
        Edges.due(x.step(9), 29);
        for (int i : Edges.outside(0, 9)) {
            Edges.none(x.step(i));
        }
    }

    private static void aboutNet() {
        BreakerRows x = new BreakerRows();
        for (int k = 1; k <= 29; k++) {
            x.line(0, 1);
            Edges.due(x.about(0), k + 1);
            x.breaker(k, 0, 1, 1);
            Edges.due(x.about(1), k);
        }
        x.line(0, 1);
        x.breaker(30, 0, 1, 1);
        x.breaker(29, 0, 1, 1);
        Edges.due(x.about(0), 30);
        Edges.due(x.about(1), 29);
        for (int k = 29; k >= 1; k--) {
            x.remove(k);
            Edges.due(x.about(1), k - 1);
        }
        x.remove(1);
        Edges.due(x.about(1), 0);
        Edges.due(x.about(0), 30);
    }

    private static void aboutGoal() {
        BreakerRows x = Edges.star(1);
        Edges.due(x.about(7), 0);
        x.change();
        Edges.due(x.about(7), 0);
        x.goal();
        Edges.due(x.about(7), 1);
        x.goal();
        Edges.due(x.about(7), 1);
        x.remove(1);
        Edges.due(x.about(7), 1);
    }

    private static void aboutOrder() {
        BreakerRows x = Edges.star(11);
        Edges.due(x.about(8), 0);
        x.goal();
        for (int k = 1; k <= 10; k++) {
            x.dial(k, 2);
            Edges.due(x.about(8), k - 1);
            Edges.due(x.change(), k);
            Edges.due(x.about(8), k);
        }
        x.dial(11, 2);
        Edges.none(x.change());
        Edges.due(x.about(8), 10);
        x.goal();
        Edges.due(x.about(8), 10);
        Edges.due(x.change(), 0);
        Edges.due(x.about(8), 0);
    }

    private static void aboutOthers() {
        BreakerRows x = Edges.rich();
        for (int what : Edges.outside(0, 8)) {
            Edges.none(x.about(what));
        }
        int[] want = {5, 3, 2000, 2, 3, 50000, 4, 1, 2};
        for (int what = 0; what <= 8; what++) {
            Edges.due(x.about(what), want[what]);
        }
    }
}
