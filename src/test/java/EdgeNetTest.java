/** Boundary cases of the document, sentence by sentence: Terms I (THE NET) and promises 1 to 10. */
public final class EdgeNetTest {
    private static final int LOW = Edges.LOW;
    private static final int HIGH = Edges.HIGH;

    private EdgeNetTest() {
    }

    public static void main(String[] args) {
        knotsAndLines();
        curvesAndBreakers();
        seeing();
        faults();
        newObject();
        netCalls();
        breakerCalls();
        refusedCalls();
        Edges.end();
    }

    private static void knotsAndLines() {
        Edges.says("KNOTS 0 .. 29", EdgeNetTest::thirtyKnots);
        Edges.says("KNOT 0 is fed by a FORCE V (1 .. 10000)", EdgeNetTest::forces);
        Edges.says("behind a resistance (1 .. 1000)", EdgeNetTest::feedResistances);
        Edges.says("LINE k, with a resistance (1 .. 1000)", EdgeNetTest::lineResistances);
        Edges.says("from a KNOT that was there ahead of it", EdgeNetTest::knotsAhead);
        Edges.says("LOAD of a KNOT: a current (0 .. 1000)", EdgeNetTest::loads);
    }

    private static void curvesAndBreakers() {
        Edges.says("CURVES 0 .. 7", EdgeNetTest::curves);
        Edges.says("up to 8 CORNERS", EdgeNetTest::eightCorners);
        Edges.says("a MULTIPLE (10 .. 1000, tenths", EdgeNetTest::multiples);
        Edges.says("MULTIPLE: rising", EdgeNetTest::multiplesRise);
        Edges.says("TICKS (1 .. 1000", EdgeNetTest::ticks);
        Edges.says("TICKS: falling", EdgeNetTest::ticksFall);
        Edges.says("a DIAL (1 .. 40)", EdgeNetTest::dials);
        Edges.says("a PICK (a current, 1 .. 10000)", EdgeNetTest::picks);
    }

    private static void seeing() {
        Edges.says("It SEES a current I if ten times I is at least PICK times the MULTIPLE", EdgeNetTest::justSeen);
        Edges.says("SEES: the least numbers", EdgeNetTest::leastSeen);
        Edges.says("SEES: the greatest numbers", EdgeNetTest::greatestNumbersSeen);
        Edges.says("Its current is 16 V / SUM, a fraction", EdgeNetTest::currentIsAFraction);
        Edges.says("DIAL times TICKS of the last CORNER of which that holds", EdgeNetTest::lastCornerHolds);
        Edges.says("A CURVE without CORNERS sees nothing", EdgeNetTest::emptyCurve);
    }

    private static void faults() {
        Edges.says("at a place s (0 .. 16) of LINE k", EdgeNetTest::places);
        Edges.says("by a resistance f (0 .. 1000)", EdgeNetTest::faultResistances);
        Edges.says("SUM: s times that of LINE k", EdgeNetTest::sumAtTheEnds);
        Edges.says("SUM: at KNOT 0, of the LINES above LINE k and f", EdgeNetTest::sumOfTheLongestWay);
        Edges.says("in all LINES of the WAY of LINE k, and none elsewhere", EdgeNetTest::noneElsewhere);
        Edges.says("FAULTS ASKED: all places of all LINES", EdgeNetTest::askedAtAllPlaces);
        Edges.says("FAULTS ASKED: by f = 0 and by f = the told LAST", EdgeNetTest::askedByLast);
        Edges.says("LAST (0 .. 1000; at first 0)", EdgeNetTest::lasts);
    }

    private static void newObject() {
        Edges.says("NONE = -1", () -> Edges.due(BreakerRows.NONE, -1));
        Edges.says("1: KNOT 0 alone", EdgeNetTest::newKnot);
        Edges.says("1: FORCE 1000, resistance 1", EdgeNetTest::newFeed);
        Edges.says("1: CURVES without CORNERS", EdgeNetTest::newCurves);
        Edges.says("1: no GOAL", EdgeNetTest::newGoal);
        Edges.says("1: at first 1, at first 100000, at first 0", EdgeNetTest::newTold);
        Edges.says("1: a new object shares nothing with another", EdgeNetTest::newShares);
        Edges.says("An object is used for at most 512 calls", EdgeNetTest::lastCalls);
    }

    private static void netCalls() {
        Edges.says("2: False, changing nothing, for others", EdgeNetTest::sourceHalfWrong);
        Edges.says("3: NONE: there are 30", EdgeNetTest::fullNet);
        Edges.says("3: (It is not in the GOAL.)", EdgeNetTest::lineNotInGoal);
        Edges.says("4: A KNOT's LOAD: true", EdgeNetTest::loadTakesThePlace);
        Edges.says("5: A CORNER behind those of a CURVE: how many", EdgeNetTest::cornerCounts);
        Edges.says("5: NONE: it doesn't rise and fall", EdgeNetTest::cornerEnds);
        Edges.says("5: NONE: there are 8", EdgeNetTest::fullCurve);
    }

    private static void breakerCalls() {
        Edges.says("6: in place of one that it has", EdgeNetTest::breakerInPlace);
        Edges.says("6: it doesn't FAIL", EdgeNetTest::breakerDoesNotFail);
        Edges.says("6: (Its DIAL is not in the GOAL any more.)", EdgeNetTest::breakerNotInGoal);
        Edges.says("6: False for others: no such LINE", EdgeNetTest::breakerLines);
        Edges.says("7: False: it has none", EdgeNetTest::removeNone);
        Edges.says("7: (Nor is it in the GOAL.)", EdgeNetTest::removedNotInGoal);
        Edges.says("8: A BREAKER's DIAL: true. False for others", EdgeNetTest::dialCalls);
        Edges.says("8: a DIAL that is set stays in the GOAL as it was", EdgeNetTest::dialAndGoal);
        Edges.says("9: A BREAKER FAILS, or not: true", EdgeNetTest::failsTwice);
        Edges.says("9: False: there is none", EdgeNetTest::failsNone);
        Edges.says("10: MARGIN, LIMIT, LAST: true", EdgeNetTest::toldEnds);
        Edges.says("10: False, changing nothing, for others", EdgeNetTest::toldPartlyWrong);
    }

    private static void refusedCalls() {
        Edges.says("the net of the refused calls has something of everything", EdgeNetTest::richIsRich);
        Edges.says("2: refused: changes nothing", EdgeNetTest::sourceRefused);
        Edges.says("3: refused: changes nothing", EdgeNetTest::lineRefused);
        Edges.says("4: refused: changes nothing", EdgeNetTest::loadRefused);
        Edges.says("5: refused: changes nothing", EdgeNetTest::cornerRefused);
        Edges.says("6: refused: changes nothing", EdgeNetTest::breakerRefused);
        Edges.says("7, 8, 9: refused: changes nothing", EdgeNetTest::settingRefused);
        Edges.says("10: refused: changes nothing", EdgeNetTest::toldRefused);
    }

    // ---- Terms I: KNOTS, LINES, LOADS

    private static void thirtyKnots() {
        BreakerRows x = new BreakerRows();
        for (int k = 1; k <= 29; k++) {
            Edges.due(x.line(k - 1, 1), k);
        }
        Edges.due(x.about(0), 30);
        Edges.due(x.lineOf(29, 0), 28);
        Edges.none(x.lineOf(30, 0));
        Edges.yes(x.load(29, 5));
        Edges.no(x.load(30, 5));
        Edges.due(x.lineOf(1, 3), 5);
        Edges.yes(x.breaker(29, 0, 3, 1));
        Edges.no(x.breaker(30, 0, 3, 1));
        Edges.due(x.corner(0, 10, 2), 1);
        Edges.due(x.waits(29, 29, 16, 0), 6);
        Edges.due(x.run(29, 16, 0), 6);
        Edges.due(x.ran(29, 0), 1);
        Edges.due(x.ran(29, 1), 1);
        Edges.due(x.ran(28, 1), 0);
        Edges.none(x.run(30, 0, 0));
        Edges.due(x.goal(), 1);
        Edges.due(x.lineOf(29, 9), 3);
        Edges.yes(x.remove(29));
        Edges.no(x.remove(30));
    }

    private static void forces() {
        BreakerRows x = new BreakerRows();
        x.line(0, 1);
        Edges.yes(x.source(1, 1));
        Edges.due(x.about(2), 1);
        Edges.due(x.fault(1, 0, 0, 1), 100);
        Edges.yes(x.source(10000, 1));
        Edges.due(x.about(2), 10000);
        Edges.due(x.fault(1, 0, 0, 1), 1000000);
        for (int force : Edges.outside(1, 10000)) {
            Edges.no(x.source(force, 1));
            Edges.due(x.about(2), 10000);
        }
    }

    private static void feedResistances() {
        BreakerRows x = new BreakerRows();
        x.line(0, 1);
        Edges.yes(x.source(1000, 1));
        Edges.due(x.fault(1, 0, 0, 0), 16);
        Edges.yes(x.source(1000, 1000));
        Edges.due(x.about(3), 1000);
        Edges.due(x.fault(1, 0, 0, 0), 16000);
        for (int r : Edges.outside(1, 1000)) {
            Edges.no(x.source(1000, r));
            Edges.due(x.about(3), 1000);
        }
    }

    private static void lineResistances() {
        BreakerRows x = new BreakerRows();
        for (int r : Edges.outside(1, 1000)) {
            Edges.none(x.line(0, r));
        }
        Edges.due(x.about(0), 1);
        Edges.due(x.line(0, 1), 1);
        Edges.due(x.line(0, 1000), 2);
        Edges.due(x.fault(1, 16, 0, 0), 32);
        Edges.due(x.fault(2, 16, 0, 0), 16016);
    }

    private static void knotsAhead() {
        BreakerRows x = new BreakerRows();
        Edges.none(x.line(1, 1));
        for (int from : Edges.outside(0, 0)) {
            Edges.none(x.line(from, 1));
        }
        Edges.due(x.line(0, 1), 1);
        Edges.none(x.line(2, 1));
        Edges.due(x.line(1, 1), 2);
        for (int from : Edges.outside(0, 2)) {
            Edges.none(x.line(from, 1));
        }
        Edges.due(x.line(2, 1), 3);
        Edges.due(x.line(0, 1), 4);
        Edges.due(x.lineOf(3, 0), 2);
        Edges.due(x.lineOf(4, 0), 0);
    }

    private static void loads() {
        BreakerRows x = Edges.row(2);
        Edges.yes(x.load(2, 1000));
        Edges.due(x.lineOf(2, 3), 1000);
        for (int current : Edges.outside(0, 1000)) {
            Edges.no(x.load(2, current));
        }
        Edges.due(x.lineOf(2, 3), 1000);
        for (int knot : Edges.outside(0, 2)) {
            Edges.no(x.load(knot, 1));
        }
        Edges.due(x.lineOf(1, 3), 1000);
        Edges.yes(x.load(2, 0));
        Edges.due(x.lineOf(2, 3), 0);
        // all KNOTS by the most: no LINE's current is beyond 29 times 1000
        BreakerRows y = Edges.row(29);
        for (int k = 0; k <= 29; k++) {
            Edges.yes(y.load(k, 1000));
        }
        Edges.due(y.lineOf(1, 3), 29000);
        Edges.due(y.lineOf(29, 3), 1000);
    }

    // ---- Terms I: CURVES and BREAKERS

    private static void curves() {
        BreakerRows x = new BreakerRows();
        x.line(0, 1);
        for (int curve : Edges.outside(0, 7)) {
            Edges.none(x.corner(curve, 10, 1));
            Edges.no(x.breaker(1, curve, 1, 1));
        }
        Edges.due(x.about(1), 0);
        for (int curve = 0; curve <= 7; curve++) {
            Edges.due(x.corner(curve, 10, 100 - curve), 1);
        }
        for (int curve = 0; curve <= 7; curve++) {
            Edges.yes(x.breaker(1, curve, 1, 1));
            Edges.due(x.lineOf(1, 5), curve);
            Edges.due(x.waits(1, 1, 0, 0), 100 - curve);
        }
    }

    private static void eightCorners() {
        BreakerRows x = new BreakerRows();
        for (int i = 1; i <= 8; i++) {
            Edges.due(x.corner(4, 10 * i, 100 - i), i);
        }
        Edges.none(x.corner(4, 90, 91));
        Edges.none(x.corner(4, 1000, 1));
        x.line(0, 1);
        x.breaker(1, 4, 1, 1);
        Edges.due(x.waits(1, 1, 0, 0), 92);
        Edges.due(x.waits(1, 1, 0, 124), 92);
        Edges.due(x.waits(1, 1, 0, 125), 93);
        Edges.due(x.waits(1, 1, 0, 999), 99);
    }

    private static void multiples() {
        BreakerRows x = new BreakerRows();
        for (int multiple : Edges.outside(10, 1000)) {
            Edges.none(x.corner(0, multiple, 5));
        }
        Edges.due(x.corner(0, 10, 5), 1);
        Edges.due(x.corner(1, 1000, 5), 1);
        // 1.0 times and 100.0 times the PICK: with PICK 10 currents of 10 and of 1000
        x.line(0, 1);
        x.breaker(1, 0, 1, 10);
        Edges.due(x.waits(1, 1, 0, 99), 5);
        Edges.none(x.waits(1, 1, 1, 99));
        x.breaker(1, 1, 1, 10);
        Edges.due(x.waits(1, 1, 0, 0), 5);
        Edges.none(x.waits(1, 1, 1, 0));
    }

    private static void multiplesRise() {
        BreakerRows x = new BreakerRows();
        Edges.due(x.corner(0, 500, 50), 1);
        Edges.none(x.corner(0, 500, 49));
        Edges.none(x.corner(0, 499, 49));
        Edges.none(x.corner(0, 10, 49));
        Edges.due(x.corner(0, 501, 49), 2);
        Edges.none(x.corner(0, 501, 48));
        Edges.due(x.corner(0, 1000, 48), 3);
    }

    private static void ticks() {
        BreakerRows x = new BreakerRows();
        for (int time : Edges.outside(1, 1000)) {
            Edges.none(x.corner(0, 10, time));
        }
        Edges.due(x.corner(0, 10, 1), 1);
        Edges.due(x.corner(1, 10, 1000), 1);
        x.line(0, 1);
        x.breaker(1, 0, 1, 1);
        Edges.due(x.waits(1, 1, 0, 0), 1);
        x.breaker(1, 1, 40, 1);
        Edges.due(x.waits(1, 1, 0, 0), 40000);
    }

    private static void ticksFall() {
        BreakerRows x = new BreakerRows();
        Edges.due(x.corner(0, 10, 500), 1);
        Edges.none(x.corner(0, 11, 500));
        Edges.none(x.corner(0, 11, 501));
        Edges.none(x.corner(0, 11, 1000));
        Edges.due(x.corner(0, 11, 499), 2);
        Edges.none(x.corner(0, 12, 499));
        Edges.due(x.corner(0, 12, 1), 3);
    }

    private static void dials() {
        BreakerRows x = Edges.row(1);
        for (int dial : Edges.outside(1, 40)) {
            Edges.no(x.breaker(1, 0, dial, 1));
        }
        Edges.due(x.lineOf(1, 4), 0);
        Edges.yes(x.breaker(1, 0, 1, 1));
        Edges.due(x.lineOf(1, 6), 1);
        Edges.yes(x.breaker(1, 0, 40, 1));
        Edges.due(x.lineOf(1, 6), 40);
        for (int dial : Edges.outside(1, 40)) {
            Edges.no(x.dial(1, dial));
        }
        Edges.due(x.lineOf(1, 6), 40);
        Edges.yes(x.dial(1, 1));
        Edges.due(x.lineOf(1, 6), 1);
        Edges.yes(x.dial(1, 40));
        Edges.due(x.lineOf(1, 6), 40);
    }

    private static void picks() {
        BreakerRows x = Edges.row(1);
        for (int pick : Edges.outside(1, 10000)) {
            Edges.no(x.breaker(1, 0, 1, pick));
        }
        Edges.due(x.about(1), 0);
        Edges.yes(x.breaker(1, 0, 1, 1));
        Edges.due(x.lineOf(1, 7), 1);
        Edges.yes(x.breaker(1, 0, 1, 10000));
        Edges.due(x.lineOf(1, 7), 10000);
    }

    // ---- Terms I: SEES and WAIT

    private static void justSeen() {
        // at s = 0 the current is 1000: 10 times 1000 is 400 times 25
        BreakerRows x = Edges.one(1, 400);
        x.corner(0, 25, 7);
        Edges.due(x.waits(1, 1, 0, 0), 7);
        Edges.none(x.waits(1, 1, 1, 0));
        x.breaker(1, 0, 1, 401);
        Edges.none(x.waits(1, 1, 0, 0));
        x.breaker(1, 0, 1, 399);
        Edges.due(x.waits(1, 1, 0, 0), 7);
        Edges.none(x.waits(1, 1, 1, 0));
    }

    private static void leastSeen() {
        BreakerRows x = new BreakerRows();
        x.source(1, 1);
        x.line(0, 1);
        x.corner(0, 10, 1);
        x.breaker(1, 0, 1, 1);
        Edges.due(x.waits(1, 1, 0, 0), 1);
        Edges.none(x.waits(1, 1, 1, 0));
        Edges.none(x.waits(1, 1, 0, 1));
        x.source(1, 2);
        Edges.none(x.waits(1, 1, 0, 0));
        x.source(2, 2);
        Edges.due(x.waits(1, 1, 0, 0), 1);
    }

    private static void greatestNumbersSeen() {
        BreakerRows x = new BreakerRows();
        x.source(10000, 1);
        x.line(0, 1000);
        x.corner(0, 10, 1);
        x.corner(1, 1000, 1);
        x.breaker(1, 0, 1, 10000);
        Edges.due(x.waits(1, 1, 0, 0), 1);
        Edges.none(x.waits(1, 1, 1, 0));
        // PICK times MULTIPLE times SUM goes far beyond an int, and is never reached
        x.breaker(1, 1, 1, 10000);
        for (int s = 0; s <= 16; s++) {
            Edges.none(x.waits(1, 1, s, 0));
            Edges.none(x.waits(1, 1, s, 1000));
            Edges.none(x.waits(1, 1, s, 37 * s + 13));
        }
        x.breaker(1, 1, 1, 100);
        Edges.due(x.waits(1, 1, 0, 0), 1);
        Edges.none(x.waits(1, 1, 1, 0));
    }

    private static void currentIsAFraction() {
        // 21 by 2 is 10.5, which is 1 times 10.5, and more than 10.4
        BreakerRows x = new BreakerRows();
        x.source(21, 2);
        x.line(0, 1);
        x.corner(0, 105, 3);
        x.corner(1, 104, 3);
        x.corner(2, 106, 3);
        x.breaker(1, 0, 1, 1);
        Edges.due(x.waits(1, 1, 0, 0), 3);
        Edges.none(x.waits(1, 1, 1, 0));
        x.breaker(1, 1, 1, 1);
        Edges.due(x.waits(1, 1, 0, 0), 3);
        x.breaker(1, 2, 1, 1);
        Edges.none(x.waits(1, 1, 0, 0));
        // 9999 by 1000 is under 10, though not by much
        x.source(9999, 1000);
        x.corner(3, 10, 3);
        x.breaker(1, 3, 1, 10);
        Edges.none(x.waits(1, 1, 0, 0));
        x.source(10000, 1000);
        Edges.due(x.waits(1, 1, 0, 0), 3);
    }

    private static void lastCornerHolds() {
        // at s = 0 and f from 0 on: 1000 by 1 + f
        BreakerRows x = Edges.one(3, 1);
        x.corner(0, 40, 100);
        x.corner(0, 80, 50);
        x.corner(0, 400, 7);
        Edges.due(x.waits(1, 1, 0, 0), 21);
        Edges.due(x.waits(1, 1, 0, 24), 21);
        Edges.due(x.waits(1, 1, 1, 24), 150);
        Edges.due(x.waits(1, 1, 0, 25), 150);
        Edges.due(x.waits(1, 1, 0, 124), 150);
        Edges.due(x.waits(1, 1, 1, 124), 300);
        Edges.due(x.waits(1, 1, 0, 249), 300);
        Edges.none(x.waits(1, 1, 1, 249));
        Edges.none(x.waits(1, 1, 0, 250));
    }

    private static void emptyCurve() {
        BreakerRows x = Edges.one(1, 1);
        x.load(1, 1000);
        Edges.none(x.waits(1, 1, 0, 0));
        Edges.none(x.run(1, 0, 0));
        Edges.due(x.ran(1, 0), 0);
        Edges.none(x.arc(1, 0, 0));
        Edges.none(x.worst());
        Edges.due(x.growth(), 100000);
        Edges.dueRight(x, 2, 1, 0, 0);
        Edges.none(x.fit());
        // once it has a CORNER the same BREAKER sees
        Edges.due(x.corner(0, 10, 6), 1);
        Edges.due(x.waits(1, 1, 0, 0), 6);
        Edges.due(x.growth(), 0);
        Edges.dueRight(x, 4, 1, Edges.NONE, Edges.NONE);
        // one above that sees nothing is no neighbour of those below
        BreakerRows y = Edges.pair(5, 1, 5, 1);
        Edges.dueRight(y, 3, 2, 0, 0);
        y.breaker(1, 7, 1, 1);
        Edges.dueRight(y, 2, 1, 0, 0);
        Edges.due(y.run(2, 0, 0), 5);
        Edges.due(y.ran(1, 0), 0);
    }

    // ---- Terms I: FAULTS

    private static void places() {
        BreakerRows x = Edges.one(1, 1);
        x.corner(0, 10, 5);
        for (int s = 0; s <= 16; s++) {
            Edges.due(x.fault(1, s, 0, 0), 16 + 9L * s);
            Edges.due(x.waits(1, 1, s, 0), 5);
            Edges.due(x.run(1, s, 0), 5);
            Edges.due(x.arc(1, s, 0), 5L * 16000 * 16000 / ((16 + 9L * s) * (16 + 9L * s)));
        }
        for (int s : Edges.outside(0, 16)) {
            Edges.none(x.fault(1, s, 0, 0));
            Edges.none(x.fault(1, s, 0, 1));
            Edges.none(x.waits(1, 1, s, 0));
            Edges.none(x.run(1, s, 0));
            Edges.none(x.arc(1, s, 0));
        }
    }

    private static void faultResistances() {
        BreakerRows x = Edges.one(1, 1);
        x.source(10000, 1);
        x.corner(0, 10, 5);
        for (int f : new int[] {0, 1, 999, 1000}) {
            Edges.due(x.fault(1, 0, f, 0), 16 + 16L * f);
            Edges.due(x.waits(1, 1, 0, f), 5);
            Edges.due(x.run(1, 0, f), 5);
            Edges.due(x.arc(1, 0, f), 500000000L / ((1L + f) * (1L + f)));
        }
        for (int f : Edges.outside(0, 1000)) {
            Edges.none(x.fault(1, 0, f, 0));
            Edges.none(x.fault(1, 0, f, 1));
            Edges.none(x.waits(1, 1, 0, f));
            Edges.none(x.run(1, 0, f));
            Edges.none(x.arc(1, 0, f));
        }
    }

    private static void sumAtTheEnds() {
        BreakerRows x = new BreakerRows();
        x.source(1000, 5);
        x.line(0, 7);
        x.line(1, 11);
        Edges.due(x.fault(1, 0, 0, 0), 80);
        Edges.due(x.fault(1, 1, 0, 0), 87);
        Edges.due(x.fault(1, 15, 0, 0), 185);
        Edges.due(x.fault(1, 16, 0, 0), 192);
        // the lower LINE's upper end is where the upper one's lower end is
        Edges.due(x.fault(2, 0, 0, 0), 192);
        Edges.due(x.fault(2, 16, 0, 0), 368);
        Edges.due(x.fault(2, 16, 1, 0), 384);
    }

    private static void sumOfTheLongestWay() {
        BreakerRows x = new BreakerRows();
        x.source(1, 1000);
        for (int k = 0; k < 29; k++) {
            x.line(k, 1000);
        }
        Edges.due(x.fault(29, 16, 1000, 0), 16L * 31000);
        Edges.due(x.fault(29, 16, 1000, 1), 0);
        Edges.due(x.fault(29, 0, 0, 0), 16L * 29000);
        x.source(10000, 1000);
        Edges.due(x.fault(29, 16, 1000, 1), 32);
        // the least there is
        BreakerRows y = new BreakerRows();
        y.source(10000, 1);
        y.line(0, 1000);
        Edges.due(y.fault(1, 0, 0, 0), 16);
        Edges.due(y.fault(1, 0, 0, 1), 1000000);
    }

    private static void noneElsewhere() {
        // 1 from 0; 2 and 3 from 1; 4 from 2; 5 from 0
        BreakerRows x = new BreakerRows();
        x.corner(0, 10, 5);
        for (int from : new int[] {0, 1, 1, 2, 0}) {
            x.line(from, 1);
        }
        for (int k = 1; k <= 5; k++) {
            x.breaker(k, 0, k, 1);
        }
        int[][] onWay = {{1, 0, 0, 0, 0}, {1, 1, 0, 0, 0}, {1, 0, 1, 0, 0}, {1, 1, 0, 1, 0}, {0, 0, 0, 0, 1}};
        for (int k = 1; k <= 5; k++) {
            for (int b = 1; b <= 5; b++) {
                Edges.due(x.waits(b, k, 16, 0), onWay[k - 1][b - 1] == 1 ? 5 * b : Edges.NONE);
            }
        }
        // LOADS are no part of a FAULT's current
        x.breaker(1, 0, 1, 1000);
        x.load(1, 1000);
        Edges.due(x.waits(1, 1, 0, 0), 5);
        Edges.none(x.waits(1, 1, 1, 0));
        Edges.due(x.fault(1, 0, 0, 1), 100000);
    }

    private static void askedAtAllPlaces() {
        // the one place that isn't seen is the last of the last LINE: 1000 by 30 is under 34
        BreakerRows x = Edges.row(29);
        x.corner(0, 10, 5);
        x.breaker(1, 0, 1, 33);
        Edges.allRight(x);
        Edges.due(x.worst(), 5000000);
        x.breaker(1, 0, 1, 34);
        Edges.dueRight(x, 2, 29, 7, 0);
        Edges.none(x.worst());
        x = Edges.one(1, 100);
        x.corner(0, 10, 5);
        Edges.allRight(x);
        Edges.due(x.worst(), 5000000);
        x.breaker(1, 0, 1, 101);
        Edges.dueRight(x, 2, 1, 16, 0);
        Edges.none(x.worst());
        // and the first of the first
        x.breaker(1, 0, 1, 1001);
        Edges.dueRight(x, 2, 1, 0, 0);
    }

    private static void askedByLast() {
        BreakerRows x = Edges.one(1, 20);
        x.corner(0, 10, 5);
        x.told(1, 100000, 40);
        Edges.allRight(x);
        Edges.due(x.worst(), 5000000);
        x.told(1, 100000, 41);
        Edges.dueRight(x, 2, 1, 15, 41);
        Edges.none(x.worst());
        // what lies between 0 and LAST is not asked: the upper one is too quick by f = 10 alone
        BreakerRows y = Edges.row(2);
        y.corner(0, 10, 100);
        y.corner(0, 500, 20);
        y.corner(1, 10, 90);
        y.corner(1, 1000, 10);
        y.breaker(1, 0, 1, 1);
        y.breaker(2, 1, 1, 2);
        Edges.allRight(y);
        y.told(1, 100000, 100);
        Edges.allRight(y);
        y.told(1, 100000, 10);
        Edges.dueRight(y, 3, 2, 0, 10);
    }

    private static void lasts() {
        BreakerRows x = new BreakerRows();
        Edges.due(x.about(6), 0);
        Edges.yes(x.told(1, 1, 1000));
        Edges.due(x.about(6), 1000);
        for (int last : Edges.outside(0, 1000)) {
            Edges.no(x.told(2, 2, last));
            Edges.due(x.about(6), 1000);
        }
        Edges.yes(x.told(1, 1, 0));
        Edges.due(x.about(6), 0);
        // at first only f = 0 is asked: 1000 by 1001 isn't seen
        BreakerRows y = Edges.one(1, 1);
        y.corner(0, 10, 5);
        Edges.allRight(y);
        y.told(1, 100000, 1000);
        Edges.dueRight(y, 2, 1, 0, 1000);
        y.told(1, 100000, 0);
        Edges.allRight(y);
    }

    // ---- promise 1

    private static void newKnot() {
        BreakerRows x = new BreakerRows();
        Edges.due(x.about(0), 1);
        Edges.due(x.about(1), 0);
        Edges.yes(x.load(0, 1000));
        Edges.no(x.load(1, 0));
        for (int k = -1; k <= 30; k++) {
            Edges.none(x.lineOf(k, 0));
            Edges.none(x.fault(k, 0, 0, 0));
            Edges.no(x.breaker(k, 0, 1, 1));
            Edges.none(x.run(k, 0, 0));
            Edges.none(x.ran(k, 1));
        }
        Edges.allRight(x);
        Edges.due(x.fit(), 0);
        Edges.due(x.worst(), 0);
        Edges.due(x.growth(), 100000);
    }

    private static void newFeed() {
        BreakerRows x = new BreakerRows();
        Edges.due(x.about(2), 1000);
        Edges.due(x.about(3), 1);
        x.line(0, 1000);
        Edges.due(x.fault(1, 0, 0, 0), 16);
        Edges.due(x.fault(1, 0, 0, 1), 100000);
    }

    private static void newCurves() {
        for (int curve = 0; curve <= 7; curve++) {
            BreakerRows x = Edges.row(1);
            x.breaker(1, curve, 1, 1);
            Edges.none(x.waits(1, 1, 0, 0));
            Edges.due(x.corner(curve, 1000, 1), 1);
        }
    }

    private static void newGoal() {
        BreakerRows x = new BreakerRows();
        Edges.due(x.about(7), 0);
        Edges.due(x.about(8), 0);
        Edges.none(x.change());
        Edges.none(x.step(0));
        Edges.due(x.about(7), 0);
        x = Edges.star(1);
        Edges.none(x.lineOf(1, 9));
        Edges.none(x.change());
    }

    private static void newTold() {
        BreakerRows x = new BreakerRows();
        Edges.due(x.about(4), 1);
        Edges.due(x.about(5), 100000);
        Edges.due(x.about(6), 0);
    }

    private static void newShares() {
        BreakerRows first = Edges.rich();
        BreakerRows second = new BreakerRows();
        int[] about = {1, 0, 1000, 1, 1, 100000, 0, 0, 0};
        for (int what = 0; what < about.length; what++) {
            Edges.due(second.about(what), about[what]);
        }
        second.line(0, 1);
        second.breaker(1, 0, 1, 1);
        Edges.none(second.waits(1, 1, 0, 0));
        Edges.due(second.lineOf(1, 3), 0);
        Edges.due(first.about(0), 5);
        Edges.due(first.lineOf(1, 6), 20);
        Edges.due(first.ran(4, 1), 1);
    }

    private static void lastCalls() {
        BreakerRows x = Edges.pair(5, 2, 5, 1);
        // six calls so far, and eight at the end
        for (int i = 0; i < 498; i++) {
            x.dial(1, 1 + i % 40);
        }
        Edges.yes(x.dial(1, 40));
        Edges.allRight(x);
        Edges.due(x.fit(), 3);
        Edges.due(x.goal(), 2);
        Edges.due(x.change(), 0);
    }

    // ---- promises 2 to 5

    private static void sourceHalfWrong() {
        BreakerRows x = new BreakerRows();
        x.source(70, 80);
        Edges.no(x.source(71, 0));
        Edges.no(x.source(71, 1001));
        Edges.no(x.source(0, 81));
        Edges.no(x.source(10001, 81));
        Edges.due(x.about(2), 70);
        Edges.due(x.about(3), 80);
    }

    private static void fullNet() {
        BreakerRows x = Edges.row(28);
        Edges.due(x.about(0), 29);
        Edges.due(x.line(0, 1), 29);
        for (int from = 0; from <= 30; from++) {
            Edges.none(x.line(from, 1));
        }
        Edges.due(x.about(0), 30);
        Edges.due(x.lineOf(29, 0), 0);
        Edges.due(x.lineOf(28, 0), 27);
    }

    private static void lineNotInGoal() {
        BreakerRows x = Edges.star(2);
        Edges.due(x.goal(), 2);
        Edges.due(x.line(0, 1), 3);
        Edges.none(x.lineOf(3, 9));
        Edges.yes(x.breaker(3, 0, 7, 1));
        Edges.none(x.lineOf(3, 9));
        Edges.due(x.change(), 0);
        Edges.yes(x.dial(3, 8));
        Edges.none(x.lineOf(3, 9));
        Edges.due(x.change(), 0);
    }

    private static void loadTakesThePlace() {
        BreakerRows x = Edges.row(3);
        Edges.yes(x.load(3, 10));
        Edges.yes(x.load(3, 4));
        Edges.due(x.lineOf(3, 3), 4);
        Edges.yes(x.load(1, 20));
        Edges.due(x.lineOf(3, 3), 4);
        Edges.due(x.lineOf(2, 3), 4);
        Edges.due(x.lineOf(1, 3), 24);
        Edges.yes(x.load(0, 1000));
        Edges.due(x.lineOf(1, 3), 24);
        Edges.yes(x.load(3, 0));
        Edges.due(x.lineOf(1, 3), 20);
    }

    private static void cornerCounts() {
        BreakerRows x = new BreakerRows();
        Edges.due(x.corner(3, 100, 30), 1);
        Edges.due(x.corner(5, 100, 30), 1);
        Edges.due(x.corner(3, 200, 20), 2);
        Edges.none(x.corner(3, 200, 10));
        Edges.due(x.corner(3, 300, 10), 3);
        Edges.due(x.corner(5, 101, 29), 2);
    }

    private static void cornerEnds() {
        // behind the greatest MULTIPLE, or the least TICKS, there is no CORNER
        BreakerRows x = new BreakerRows();
        Edges.due(x.corner(0, 1000, 1000), 1);
        for (int time : new int[] {1, 999, 1000}) {
            Edges.none(x.corner(0, 1000, time));
            Edges.none(x.corner(0, 1001, time));
        }
        Edges.due(x.corner(1, 10, 1), 1);
        for (int multiple : new int[] {10, 11, 1000}) {
            Edges.none(x.corner(1, multiple, 1));
            Edges.none(x.corner(1, multiple, 0));
        }
    }

    private static void fullCurve() {
        BreakerRows x = new BreakerRows();
        for (int i = 1; i <= 8; i++) {
            Edges.due(x.corner(6, 10 + i, 1000 - i), i);
        }
        Edges.none(x.corner(6, 19, 991));
        Edges.none(x.corner(6, 19, 991));
        Edges.due(x.corner(5, 19, 991), 1);
        Edges.due(x.corner(7, 19, 991), 1);
    }

    // ---- promises 6 to 10

    private static void breakerInPlace() {
        BreakerRows x = Edges.row(2);
        Edges.yes(x.breaker(2, 3, 4, 5));
        Edges.due(x.about(1), 1);
        Edges.yes(x.breaker(2, 7, 40, 10000));
        Edges.due(x.about(1), 1);
        Edges.due(x.lineOf(2, 5), 7);
        Edges.due(x.lineOf(2, 6), 40);
        Edges.due(x.lineOf(2, 7), 10000);
        Edges.due(x.lineOf(1, 4), 0);
    }

    private static void breakerDoesNotFail() {
        BreakerRows x = Edges.star(1);
        Edges.due(x.lineOf(1, 8), 0);
        x.fails(1, true);
        Edges.none(x.run(1, 0, 0));
        Edges.no(x.breaker(1, 0, 41, 1));
        Edges.due(x.lineOf(1, 8), 1);
        Edges.yes(x.breaker(1, 0, 1, 1));
        Edges.due(x.lineOf(1, 8), 0);
        Edges.due(x.run(1, 0, 0), 5);
        x.fails(1, true);
        x.remove(1);
        Edges.yes(x.breaker(1, 0, 1, 1));
        Edges.due(x.lineOf(1, 8), 0);
    }

    private static void breakerNotInGoal() {
        BreakerRows x = Edges.star(2);
        x.goal();
        // the very same BREAKER again
        Edges.yes(x.breaker(1, 0, 1, 1));
        Edges.none(x.lineOf(1, 9));
        Edges.due(x.lineOf(2, 9), 1);
        Edges.due(x.about(7), 1);
        x.dial(1, 9);
        Edges.due(x.change(), 0);
        Edges.no(x.breaker(2, 8, 1, 1));
        Edges.due(x.lineOf(2, 9), 1);
    }

    private static void breakerLines() {
        BreakerRows x = Edges.row(3);
        Edges.no(x.breaker(0, 0, 1, 1));
        for (int k : Edges.outside(1, 3)) {
            Edges.no(x.breaker(k, 0, 1, 1));
        }
        Edges.due(x.about(1), 0);
        Edges.yes(x.breaker(1, 0, 1, 1));
        Edges.yes(x.breaker(3, 0, 1, 1));
        Edges.due(x.about(1), 2);
        Edges.due(x.lineOf(2, 4), 0);
    }

    private static void removeNone() {
        BreakerRows x = Edges.row(3);
        x.breaker(2, 0, 1, 1);
        for (int k : Edges.outside(2, 2)) {
            Edges.no(x.remove(k));
        }
        Edges.due(x.about(1), 1);
        Edges.yes(x.remove(2));
        Edges.no(x.remove(2));
        Edges.due(x.about(1), 0);
        Edges.due(x.lineOf(2, 4), 0);
    }

    private static void removedNotInGoal() {
        BreakerRows x = Edges.star(2);
        x.goal();
        Edges.yes(x.remove(1));
        Edges.none(x.lineOf(1, 9));
        Edges.yes(x.breaker(1, 0, 6, 1));
        Edges.none(x.lineOf(1, 9));
        Edges.due(x.change(), 0);
        Edges.due(x.about(7), 1);
        Edges.due(x.goal(), 2);
        Edges.due(x.lineOf(1, 9), 6);
        // one whose DIAL was another is no step any more: LINE 3 is LINE 2's to keep
        x.line(2, 1);
        x.breaker(3, 0, 1, 1);
        x.dial(2, 3);
        x.goal();
        x.dial(3, 2);
        x.dial(2, 4);
        Edges.due(x.change(), 2);
        Edges.yes(x.remove(3));
        Edges.dueOrder(x, 2);
    }

    private static void dialCalls() {
        BreakerRows x = Edges.row(3);
        x.breaker(2, 0, 5, 1);
        for (int k : Edges.outside(2, 2)) {
            Edges.no(x.dial(k, 7));
        }
        Edges.due(x.lineOf(2, 6), 5);
        Edges.none(x.lineOf(1, 6));
        Edges.none(x.lineOf(3, 6));
        Edges.yes(x.dial(2, 5));
        Edges.yes(x.dial(2, 7));
        Edges.due(x.lineOf(2, 6), 7);
        x.remove(2);
        Edges.no(x.dial(2, 7));
    }

    private static void dialAndGoal() {
        BreakerRows x = Edges.star(1);
        x.dial(1, 12);
        x.goal();
        Edges.yes(x.dial(1, 40));
        Edges.due(x.lineOf(1, 9), 12);
        Edges.yes(x.dial(1, 12));
        Edges.due(x.change(), 0);
    }

    private static void failsTwice() {
        BreakerRows x = Edges.star(2);
        Edges.yes(x.fails(1, false));
        Edges.due(x.lineOf(1, 8), 0);
        Edges.yes(x.fails(1, true));
        Edges.yes(x.fails(1, true));
        Edges.due(x.lineOf(1, 8), 1);
        Edges.due(x.lineOf(2, 8), 0);
        Edges.yes(x.fails(2, true));
        Edges.yes(x.fails(1, false));
        Edges.due(x.lineOf(1, 8), 0);
        Edges.due(x.lineOf(2, 8), 1);
        Edges.due(x.run(1, 0, 0), 5);
        Edges.none(x.run(2, 0, 0));
    }

    private static void failsNone() {
        BreakerRows x = Edges.row(3);
        x.breaker(2, 0, 1, 1);
        for (int k : Edges.outside(2, 2)) {
            Edges.no(x.fails(k, true));
            Edges.no(x.fails(k, false));
        }
        Edges.due(x.lineOf(2, 8), 0);
        Edges.none(x.lineOf(1, 8));
        x.fails(2, true);
        x.remove(2);
        Edges.no(x.fails(2, false));
        Edges.none(x.lineOf(2, 8));
    }

    private static void toldEnds() {
        BreakerRows x = new BreakerRows();
        Edges.yes(x.told(1, 1, 0));
        Edges.due(x.about(4), 1);
        Edges.due(x.about(5), 1);
        Edges.due(x.about(6), 0);
        Edges.yes(x.told(10000, 100000, 1000));
        Edges.due(x.about(4), 10000);
        Edges.due(x.about(5), 100000);
        Edges.due(x.about(6), 1000);
    }

    private static void toldPartlyWrong() {
        BreakerRows x = new BreakerRows();
        x.told(7, 8, 9);
        for (int margin : Edges.outside(1, 10000)) {
            Edges.no(x.told(margin, 10, 11));
        }
        for (int limit : Edges.outside(1, 100000)) {
            Edges.no(x.told(10, limit, 11));
        }
        for (int last : Edges.outside(0, 1000)) {
            Edges.no(x.told(10, 10, last));
        }
        Edges.due(x.about(4), 7);
        Edges.due(x.about(5), 8);
        Edges.due(x.about(6), 9);
    }

    // ---- refused calls change nothing

    private static void richIsRich() {
        BreakerRows x = Edges.rich();
        Edges.allRight(x);
        Edges.due(x.about(8), 2);
        Edges.due(x.step(0), 2);
        Edges.due(x.step(1), 1);
        Edges.due(x.ran(2, 0), 1);
        Edges.due(x.ran(4, 1), 1);
        Edges.due(x.ran(3, 1), 0);
        Edges.due(x.growth(), 333);
        Edges.due(x.lineOf(3, 8), 1);
        Edges.dueOrder(x, 2, 3, 1);
        Edges.due(x.fit(), 5 + 1 + 1);
    }

    private static void sourceRefused() {
        for (int force : Edges.outside(1, 10000)) {
            Edges.refused(x -> !x.source(force, 9));
        }
        for (int r : Edges.outside(1, 1000)) {
            Edges.refused(x -> !x.source(9, r));
        }
    }

    private static void lineRefused() {
        for (int from : Edges.outside(0, 4)) {
            Edges.refused(x -> x.line(from, 1) == Edges.NONE);
        }
        for (int r : Edges.outside(1, 1000)) {
            Edges.refused(x -> x.line(4, r) == Edges.NONE);
        }
    }

    private static void loadRefused() {
        for (int knot : Edges.outside(0, 4)) {
            Edges.refused(x -> !x.load(knot, 1));
        }
        for (int current : Edges.outside(0, 1000)) {
            Edges.refused(x -> !x.load(2, current));
        }
    }

    private static void cornerRefused() {
        for (int curve : Edges.outside(0, 7)) {
            Edges.refused(x -> x.corner(curve, 100, 1) == Edges.NONE);
        }
        for (int multiple : Edges.outside(51, 1000)) {
            Edges.refused(x -> x.corner(0, multiple, 1) == Edges.NONE);
        }
        for (int time : Edges.outside(1, 1)) {
            Edges.refused(x -> x.corner(0, 60, time) == Edges.NONE);
        }
    }

    private static void breakerRefused() {
        for (int k : Edges.outside(1, 4)) {
            Edges.refused(x -> !x.breaker(k, 0, 1, 1));
        }
        for (int curve : Edges.outside(0, 7)) {
            Edges.refused(x -> !x.breaker(3, curve, 1, 1));
        }
        for (int dial : Edges.outside(1, 40)) {
            Edges.refused(x -> !x.breaker(3, 0, dial, 1));
        }
        for (int pick : Edges.outside(1, 10000)) {
            Edges.refused(x -> !x.breaker(3, 0, 1, pick));
        }
    }

    private static void settingRefused() {
        int[] without = {LOW, -1, 0, 4, 5, 29, 30, 33, 35, 65537, HIGH};
        for (int k : without) {
            Edges.refused(x -> !x.remove(k));
            Edges.refused(x -> !x.dial(k, 3));
            Edges.refused(x -> !x.fails(k, true));
            Edges.refused(x -> !x.fails(k, false));
        }
        for (int dial : Edges.outside(1, 40)) {
            Edges.refused(x -> !x.dial(2, dial));
        }
    }

    private static void toldRefused() {
        for (int margin : Edges.outside(1, 10000)) {
            Edges.refused(x -> !x.told(margin, 1, 1));
        }
        for (int limit : Edges.outside(1, 100000)) {
            Edges.refused(x -> !x.told(1, limit, 1));
        }
        for (int last : Edges.outside(0, 1000)) {
            Edges.refused(x -> !x.told(1, 1, last));
        }
    }
}
