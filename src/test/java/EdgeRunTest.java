/** Boundary cases of the document, sentence by sentence: Terms II (RUNS) and promises 11 to 16. */
public final class EdgeRunTest {
    private static final int NONE = Edges.NONE;

    private EdgeRunTest() {
    }

    public static void main(String[] args) {
        opening();
        keepers();
        rightByParts();
        asking();
        running();
        gone();
        Edges.end();
    }

    private static void opening() {
        Edges.says("those with the least WAIT open, at that tick", EdgeRunTest::leastWaitOpens);
        Edges.says("those with the least WAIT open: more than one", EdgeRunTest::allOfTheLeastOpen);
        Edges.says("of the BREAKERS on the WAY that SEE its current", EdgeRunTest::blindDoNotOpen);
        Edges.says("and don't FAIL", EdgeRunTest::failingDoNotOpen);
        Edges.says("If there is none such it isn't cleared", EdgeRunTest::noneSuch);
        Edges.says("DARK are the KNOTS below one that opened", EdgeRunTest::darkBelow);
        Edges.says("(LINE k's own KNOT, too)", EdgeRunTest::darkOwnKnot);
    }

    private static void keepers() {
        Edges.says("KEEPER: the last LINE of its WAY that has a BREAKER (itself, perhaps)", EdgeRunTest::keeper);
        Edges.says("NEXT: the KEEPER of the LINE above it", EdgeRunTest::next);
        Edges.says("(of one that hangs from KNOT 0: none)", EdgeRunTest::nextOfTheFirst);
    }

    private static void rightByParts() {
        Edges.says("RIGHT, the first that is not so, by LINES: LINE by LINE", EdgeRunTest::lineByLine);
        Edges.says("of each: 1 ahead of 2 ahead of 3", EdgeRunTest::oneTwoThree);
        Edges.says("1 it has no KEEPER", EdgeRunTest::noKeeper);
        Edges.says("2 its KEEPER doesn't SEE some FAULT ASKED of the LINE", EdgeRunTest::keeperIsBlind);
        Edges.says("2: the least s", EdgeRunTest::leastPlaceUnseen);
        Edges.says("2: of that f = 0 ahead of LAST", EdgeRunTest::zeroAheadOfLastUnseen);
        Edges.says("3: by s, f likewise", EdgeRunTest::leastPlaceOutOfOrder);
        Edges.says("3: WAIT less than the next one below and the MARGIN together", EdgeRunTest::justTheMargin);
        Edges.says("3: the MARGIN (1 .. 10000; at first 1)", EdgeRunTest::margins);
        Edges.says("3: of the BREAKERS on its WAY that SEE it, the next one below", EdgeRunTest::blindBetween);
        Edges.says("3: some one's WAIT: any of the WAY", EdgeRunTest::anyOfTheWay);
        Edges.says("3: or the KEEPER's WAIT is above the LIMIT", EdgeRunTest::justTheLimit);
        Edges.says("3: the KEEPER's WAIT alone", EdgeRunTest::limitIsTheKeepers);
        Edges.says("3: LIMIT (1 .. 100000; at first 100000)", EdgeRunTest::limits);
        Edges.says("RIGHT does not look at who FAILS", EdgeRunTest::failingIsRight);
        Edges.says("4 behind all LINES", EdgeRunTest::loadsBehindAll);
        Edges.says("4: a BREAKER SEES the current of its LINE by LOADS", EdgeRunTest::loadJustSeen);
        Edges.says("4: LOADS of all KNOTS below it, its own KNOT, too", EdgeRunTest::loadsBelow);
    }

    private static void asking() {
        Edges.says("11: 1 its KEEPER (NONE), 2 its NEXT (of its KEEPER; NONE)", EdgeRunTest::lineOfNoKeeper);
        Edges.says("11: 5 to 9 NONE without one", EdgeRunTest::lineOfNoBreaker);
        Edges.says("11: 9 the DIAL in the GOAL (NONE)", EdgeRunTest::lineOfGoal);
        Edges.says("11: NONE for others", EdgeRunTest::lineOfOthers);
        Edges.says("12: its current in hundredths, cut", EdgeRunTest::currentIsCut);
        Edges.says("12: NONE for others", EdgeRunTest::faultOthers);
        Edges.says("13: NONE: it has none, isn't on the WAY, doesn't SEE it", EdgeRunTest::waitsNone);
        Edges.says("13: NONE for others", EdgeRunTest::waitsOthers);
        Edges.says("16: 0, or which of the four isn't", EdgeRunTest::rightOfAll);
        Edges.says("16: its LINE (1; of 4 the BREAKER's)", EdgeRunTest::rightOfTheBreaker);
        Edges.says("16: 1 to 3 where there is none (2, 3 also of 1 and 4)", EdgeRunTest::rightWithoutPlace);
        Edges.says("16: NONE for others", EdgeRunTest::rightOthers);
    }

    private static void running() {
        Edges.says("14: NONE: it isn't, and for others", EdgeRunTest::runOthers);
        Edges.says("14: refused: changes nothing", EdgeRunTest::runRefused);
        Edges.says("15: of the latest run() of a FAULT", EdgeRunTest::latestRun);
        Edges.says("15: (cleared or not", EdgeRunTest::runNotCleared);
        Edges.says("15: NONE for others: a LINE without a BREAKER (what 0)", EdgeRunTest::ranOthers);
        Edges.says("15: NONE without a run", EdgeRunTest::ranWithoutRun);
    }

    private static void gone() {
        Edges.says("15: gone behind source()", () -> goneBehind(x -> x.source(2000, 2)));
        Edges.says("15: gone behind line()", () -> goneBehind(x -> x.line(0, 1) == 5));
        Edges.says("15: gone behind load()", () -> goneBehind(x -> x.load(0, 3)));
        Edges.says("15: gone behind corner()", () -> goneBehind(x -> x.corner(7, 10, 1) == 1));
        Edges.says("15: gone behind breaker()", () -> goneBehind(x -> x.breaker(4, 0, 1, 1)));
        Edges.says("15: gone behind remove()", () -> goneBehind(x -> x.remove(3)));
        Edges.says("15: gone behind dial()", () -> goneBehind(x -> x.dial(3, 2)));
        Edges.says("15: gone behind fails()", () -> goneBehind(x -> x.fails(3, true)));
        Edges.says("15: gone behind told()", () -> goneBehind(x -> x.told(3, 50000, 4)));
        Edges.says("15: gone behind fit()", () -> goneBehind(x -> x.fit() == 7));
        Edges.says("15: not gone behind a fit() that tells NONE", EdgeRunTest::staysBehindNoFit);
        Edges.says("15: not gone behind any other call", EdgeRunTest::staysBehindOthers);
    }

    // ---- Terms II: who opens

    private static void leastWaitOpens() {
        BreakerRows x = Edges.pair(10, 3, 10, 2);
        Edges.due(x.run(2, 8, 0), 20);
        Edges.due(x.ran(1, 0), 0);
        Edges.due(x.ran(2, 0), 1);
        // the upper one by one tick
        x = Edges.pair(19, 1, 10, 2);
        Edges.due(x.run(2, 8, 0), 19);
        Edges.due(x.ran(1, 0), 1);
        Edges.due(x.ran(2, 0), 0);
    }

    private static void allOfTheLeastOpen() {
        BreakerRows x = Edges.row(29);
        x.corner(0, 10, 6);
        x.corner(1, 10, 3);
        for (int k = 1; k <= 29; k++) {
            x.breaker(k, k % 2, k % 2 == 0 ? 1 : 2, 1);
        }
        x.dial(7, 3);
        Edges.due(x.run(29, 16, 0), 6);
        for (int k = 1; k <= 29; k++) {
            Edges.due(x.ran(k, 0), k == 7 ? 0 : 1);
            Edges.due(x.ran(k, 1), 1);
        }
        Edges.due(x.ran(0, 1), 0);
    }

    private static void blindDoNotOpen() {
        // LINE 2's would be the quicker, but SEES only what is at least 91: at its upper end 100, behind 1000 by 11 not
        BreakerRows x = Edges.pair(10, 1, 1, 1);
        x.breaker(2, 2, 1, 91);
        Edges.due(x.run(2, 0, 0), 1);
        Edges.due(x.run(2, 16, 0), 10);
        Edges.due(x.ran(2, 0), 0);
        Edges.due(x.ran(1, 0), 1);
        Edges.due(x.run(2, 0, 1), 10);
        Edges.due(x.ran(2, 0), 0);
        // one beside the WAY doesn't open
        x.line(1, 10);
        x.breaker(3, 2, 1, 1);
        Edges.due(x.run(2, 0, 1), 10);
        Edges.due(x.ran(3, 0), 0);
    }

    private static void failingDoNotOpen() {
        BreakerRows x = Edges.pair(10, 1, 1, 1);
        Edges.due(x.run(2, 0, 0), 1);
        x.fails(2, true);
        Edges.due(x.run(2, 0, 0), 10);
        Edges.due(x.ran(2, 0), 0);
        Edges.due(x.ran(1, 0), 1);
        Edges.due(x.ran(2, 1), 1);
        x.fails(1, true);
        Edges.none(x.run(2, 0, 0));
        x.fails(2, false);
        Edges.due(x.run(2, 0, 0), 1);
        Edges.none(x.run(1, 0, 0));
    }

    private static void noneSuch() {
        // no BREAKER, none that SEES, none that doesn't FAIL
        BreakerRows x = Edges.row(2);
        Edges.none(x.run(2, 0, 0));
        Edges.none(x.arc(2, 0, 0));
        x = Edges.pair(5, 2, 5, 1);
        Edges.due(x.run(2, 16, 980), 5);
        Edges.none(x.run(2, 16, 981));
        Edges.none(x.arc(2, 16, 981));
        Edges.due(x.ran(1, 0), 0);
        Edges.due(x.ran(2, 1), 0);
        x.fails(1, true);
        x.fails(2, true);
        Edges.none(x.run(2, 0, 0));
        Edges.none(x.arc(2, 0, 0));
        // a BREAKER below the place of the FAULT's LINE is of no use
        x.fails(2, false);
        Edges.none(x.run(1, 16, 0));
    }

    private static void darkBelow() {
        // 1 from 0; 2 from 1; 3 from 2; 4 from 2; 5 from 1; 6 from 0: the FAULT is in LINE 3, LINE 2's opens
        BreakerRows x = new BreakerRows();
        for (int from : new int[] {0, 1, 2, 2, 1, 0}) {
            x.line(from, 1);
        }
        x.corner(0, 10, 5);
        x.breaker(2, 0, 1, 1);
        x.breaker(1, 0, 2, 1);
        Edges.due(x.run(3, 4, 0), 5);
        int[] dark = {0, 0, 1, 1, 1, 0, 0};
        for (int knot = 0; knot <= 6; knot++) {
            Edges.due(x.ran(knot, 1), dark[knot]);
        }
        // KNOT 0 is never DARK, and what hangs from it elsewhere isn't
        x.dial(2, 3);
        Edges.due(x.run(3, 4, 0), 10);
        int[] more = {0, 1, 1, 1, 1, 1, 0};
        for (int knot = 0; knot <= 6; knot++) {
            Edges.due(x.ran(knot, 1), more[knot]);
        }
        // two that open: all below the upper one
        x.dial(2, 2);
        Edges.due(x.run(3, 4, 0), 10);
        Edges.due(x.ran(1, 0), 1);
        Edges.due(x.ran(2, 0), 1);
        for (int knot = 0; knot <= 6; knot++) {
            Edges.due(x.ran(knot, 1), more[knot]);
        }
    }

    private static void darkOwnKnot() {
        // even where the FAULT is at the lower end of the LINE, beside its KNOT
        BreakerRows x = Edges.star(2);
        Edges.due(x.run(1, 16, 0), 5);
        Edges.due(x.ran(1, 1), 1);
        Edges.due(x.ran(2, 1), 0);
        Edges.due(x.ran(0, 1), 0);
        Edges.due(x.run(2, 0, 0), 5);
        Edges.due(x.ran(2, 1), 1);
        Edges.due(x.ran(1, 1), 0);
    }

    // ---- Terms II: KEEPER and NEXT

    private static void keeper() {
        BreakerRows x = Edges.row(29);
        for (int k = 1; k <= 29; k++) {
            Edges.none(x.lineOf(k, 1));
        }
        x.breaker(1, 0, 1, 1);
        x.breaker(20, 0, 1, 1);
        x.breaker(29, 0, 1, 1);
        for (int k = 1; k <= 29; k++) {
            Edges.due(x.lineOf(k, 1), k < 20 ? 1 : k < 29 ? 20 : 29);
        }
        // one that SEES nothing, or FAILS, is the KEEPER all the same
        x.fails(20, true);
        Edges.due(x.lineOf(20, 1), 20);
        Edges.due(x.lineOf(28, 1), 20);
        x.remove(20);
        Edges.due(x.lineOf(20, 1), 1);
        Edges.due(x.lineOf(28, 1), 1);
        // one with a greater number beside the WAY isn't
        BreakerRows y = Edges.row(1);
        y.line(0, 1);
        y.line(1, 1);
        y.breaker(1, 0, 1, 1);
        y.breaker(2, 0, 1, 1);
        Edges.due(y.lineOf(3, 1), 1);
    }

    private static void next() {
        BreakerRows x = Edges.row(29);
        x.breaker(3, 0, 1, 1);
        x.breaker(20, 0, 1, 1);
        x.breaker(28, 0, 1, 1);
        Edges.due(x.lineOf(29, 2), 20);
        Edges.due(x.lineOf(28, 2), 20);
        Edges.due(x.lineOf(27, 2), 3);
        Edges.due(x.lineOf(20, 2), 3);
        Edges.none(x.lineOf(19, 2));
        Edges.none(x.lineOf(3, 2));
        Edges.none(x.lineOf(2, 2));
        x.breaker(27, 0, 1, 1);
        Edges.due(x.lineOf(29, 2), 27);
        x.remove(20);
        x.remove(27);
        Edges.due(x.lineOf(29, 2), 3);
        x.remove(3);
        Edges.none(x.lineOf(29, 2));
    }

    private static void nextOfTheFirst() {
        BreakerRows x = Edges.star(3);
        for (int k = 1; k <= 3; k++) {
            Edges.due(x.lineOf(k, 1), k);
            Edges.none(x.lineOf(k, 2));
        }
        x.line(2, 1);
        Edges.due(x.lineOf(4, 1), 2);
        Edges.none(x.lineOf(4, 2));
        x.breaker(4, 0, 1, 1);
        Edges.due(x.lineOf(4, 2), 2);
    }

    // ---- Terms II: RIGHT

    private static void lineByLine() {
        // LINE 1: 3; LINE 2: 1
        BreakerRows x = Edges.star(1);
        x.line(0, 1);
        x.told(1, 4, 0);
        Edges.dueRight(x, 3, 1, 0, 0);
        x.told(1, 5, 0);
        Edges.dueRight(x, 1, 2, NONE, NONE);
        // LINE 1: 2; LINE 2: 1
        x.breaker(1, 0, 1, 1001);
        Edges.dueRight(x, 2, 1, 0, 0);
        // LINE 1: 1; LINE 2: 3
        x.remove(1);
        x.breaker(2, 0, 2, 1);
        Edges.dueRight(x, 1, 1, NONE, NONE);
        x.breaker(1, 0, 1, 1);
        Edges.dueRight(x, 3, 2, 0, 0);
        x.dial(2, 1);
        Edges.allRight(x);
    }

    private static void oneTwoThree() {
        // the LIMIT is passed from s = 0 on, but from s = 2 on the FAULT isn't seen: 2 comes ahead
        BreakerRows x = Edges.one(1, 500);
        x.corner(0, 10, 5);
        x.told(1, 4, 0);
        Edges.dueRight(x, 2, 1, 2, 0);
        x.breaker(1, 0, 1, 100);
        Edges.dueRight(x, 3, 1, 0, 0);
        x.remove(1);
        Edges.dueRight(x, 1, 1, NONE, NONE);
    }

    private static void noKeeper() {
        BreakerRows x = Edges.row(2);
        x.corner(0, 10, 5);
        Edges.dueRight(x, 1, 1, NONE, NONE);
        // a BREAKER below is none for the LINE above
        x.breaker(2, 0, 1, 1);
        Edges.dueRight(x, 1, 1, NONE, NONE);
        x.remove(2);
        x.breaker(1, 0, 1, 1);
        Edges.allRight(x);
        // the last of thirty KNOTS
        BreakerRows y = Edges.star(28);
        Edges.allRight(y);
        y.line(0, 1);
        Edges.dueRight(y, 1, 29, NONE, NONE);
        y.breaker(29, 0, 1, 1);
        Edges.allRight(y);
    }

    private static void keeperIsBlind() {
        // LINE 2's KEEPER is LINE 1's: it SEES its own LINE to the end, and LINE 2 as far as 1000 by 10 + s by 1.6
        BreakerRows x = Edges.row(0);
        x.line(0, 9);
        x.line(1, 10);
        x.corner(0, 10, 5);
        x.breaker(1, 0, 1, 50);
        Edges.allRight(x);
        x.breaker(1, 0, 1, 51);
        Edges.dueRight(x, 2, 2, 16, 0);
        x.breaker(1, 0, 1, 100);
        Edges.dueRight(x, 2, 2, 1, 0);
        x.breaker(1, 0, 1, 101);
        Edges.dueRight(x, 2, 1, 16, 0);
        // it is the KEEPER that must SEE, not another one above
        x.breaker(1, 0, 1, 1);
        x.breaker(2, 0, 1, 101);
        Edges.dueRight(x, 2, 2, 0, 0);
    }

    private static void leastPlaceUnseen() {
        // PICK 500: sums of 32 and less are seen, and 16 + 9 s goes beyond it at s = 2
        BreakerRows x = Edges.one(1, 500);
        x.corner(0, 10, 5);
        Edges.dueRight(x, 2, 1, 2, 0);
        x.breaker(1, 0, 1, 1000);
        Edges.dueRight(x, 2, 1, 1, 0);
        x.breaker(1, 0, 1, 1001);
        Edges.dueRight(x, 2, 1, 0, 0);
        x.breaker(1, 0, 1, 101);
        Edges.dueRight(x, 2, 1, 16, 0);
        x.breaker(1, 0, 1, 100);
        Edges.allRight(x);
    }

    private static void zeroAheadOfLastUnseen() {
        BreakerRows x = Edges.one(1, 500);
        x.corner(0, 10, 5);
        // by LAST from s = 1 on, by 0 from s = 2 on: the lesser s
        x.told(1, 100000, 1);
        Edges.dueRight(x, 2, 1, 1, 1);
        // both at s = 0: 0 first
        x.breaker(1, 0, 1, 1001);
        Edges.dueRight(x, 2, 1, 0, 0);
        x.breaker(1, 0, 1, 1000);
        Edges.dueRight(x, 2, 1, 0, 1);
        x.told(1, 100000, 1000);
        Edges.dueRight(x, 2, 1, 0, 1000);
        x.told(1, 100000, 0);
        Edges.dueRight(x, 2, 1, 1, 0);
    }

    private static void leastPlaceOutOfOrder() {
        // LINE 2's waits 2 down to a current of 90 (sums up to 177), beyond that 30, and 30 is above the LIMIT
        BreakerRows x = Edges.pair(100, 40, 1, 1);
        x.corner(3, 10, 30);
        x.corner(3, 50, 2);
        x.breaker(2, 3, 1, 18);
        x.told(1, 4000, 0);
        Edges.allRight(x);
        x.told(1, 29, 0);
        Edges.dueRight(x, 3, 1, 0, 0);
        x.breaker(1, 4, 1, 1);
        x.corner(4, 10, 29);
        Edges.dueRight(x, 3, 2, 2, 0);
        // by LAST from s = 1 on: the lesser s, though by 0 only at s = 2
        x.told(1, 29, 1);
        Edges.dueRight(x, 3, 2, 1, 1);
        // by both at s = 0: 0 first
        x.breaker(2, 3, 15, 18);
        Edges.dueRight(x, 3, 2, 0, 0);
        x.breaker(2, 3, 14, 18);
        Edges.dueRight(x, 3, 2, 1, 1);
        // by LAST alone at s = 0
        x.told(1, 420, 2);
        x.dial(1, 20);
        x.dial(2, 1);
        Edges.dueRight(x, 3, 1, 0, 0);
        x.told(1, 580, 2);
        Edges.allRight(x);
        x.dial(2, 20);
        Edges.dueRight(x, 3, 2, 0, 2);
        // at the last place alone
        BreakerRows y = Edges.one(1, 1);
        y.corner(0, 10, 6);
        y.corner(0, 1000, 5);
        y.told(1, 5, 0);
        Edges.allRight(y);
        y.source(999, 1);
        Edges.dueRight(y, 3, 1, 16, 0);
    }

    private static void justTheMargin() {
        // 2 times 10 and 1 times 17: a MARGIN of 3
        BreakerRows x = Edges.pair(10, 2, 17, 1);
        x.told(3, 100000, 0);
        Edges.allRight(x);
        x.told(4, 100000, 0);
        Edges.dueRight(x, 3, 2, 0, 0);
        // the same WAIT is not enough for the least MARGIN, one tick more is
        BreakerRows y = Edges.pair(7, 1, 7, 1);
        Edges.dueRight(y, 3, 2, 0, 0);
        y = Edges.pair(8, 1, 7, 1);
        Edges.allRight(y);
        y = Edges.pair(6, 1, 7, 1);
        Edges.dueRight(y, 3, 2, 0, 0);
    }

    private static void margins() {
        BreakerRows x = Edges.pair(255, 40, 200, 1);
        Edges.due(x.about(4), 1);
        Edges.yes(x.told(10000, 100000, 0));
        Edges.allRight(x);
        x = Edges.pair(255, 40, 201, 1);
        Edges.allRight(x);
        Edges.yes(x.told(10000, 100000, 0));
        Edges.dueRight(x, 3, 2, 0, 0);
        Edges.yes(x.told(9999, 100000, 0));
        Edges.allRight(x);
        for (int margin : Edges.outside(1, 10000)) {
            Edges.no(x.told(margin, 100000, 0));
        }
        Edges.due(x.about(4), 9999);
        Edges.allRight(x);
    }

    private static void blindBetween() {
        // three in a row; LINE 2's SEES its own LINE alone (100 and 50), not what lies behind it
        BreakerRows x = Edges.pair(10, 3, 10, 2);
        x.line(2, 10);
        x.breaker(2, 2, 2, 50);
        x.breaker(3, 2, 1, 1);
        Edges.allRight(x);
        x.dial(3, 2);
        Edges.dueRight(x, 3, 3, 0, 0);
        // at s = 0 of LINE 3 it still SEES, by 51 it doesn't: then LINE 1's is the next one above
        x.breaker(2, 2, 2, 51);
        Edges.dueRight(x, 2, 2, 16, 0);
        x.breaker(2, 2, 2, 50);
        x.dial(3, 1);
        x.told(11, 100000, 0);
        Edges.dueRight(x, 3, 2, 0, 0);
        x.told(10, 100000, 0);
        Edges.allRight(x);
        // LINE 3's waits 40 where LINE 2's is blind, from s = 1 on: LINE 1's 30 is too little
        x.corner(3, 10, 40);
        x.corner(3, 500, 10);
        x.breaker(3, 3, 1, 1);
        Edges.dueRight(x, 3, 3, 1, 0);
        x.dial(1, 5);
        Edges.allRight(x);
        // at s = 0 LINE 2's still SEES, and 20 is too little by one
        x.told(11, 100000, 0);
        Edges.dueRight(x, 3, 3, 0, 0);
    }

    private static void anyOfTheWay() {
        // 40, 30, 20, 10 in a row: any two neighbours may be the ones that are not right
        for (int lower = 2; lower <= 4; lower++) {
            BreakerRows x = Edges.row(4);
            x.corner(0, 10, 10);
            x.corner(1, 10, 11);
            for (int k = 1; k <= 4; k++) {
                x.breaker(k, 0, 5 - k, 1);
            }
            x.told(10, 100000, 0);
            Edges.allRight(x);
            x.told(11, 100000, 0);
            Edges.dueRight(x, 3, 2, 0, 0);
            x.told(10, 100000, 0);
            x.breaker(lower, 1, 5 - lower, 1);
            Edges.dueRight(x, 3, lower, 0, 0);
            x.remove(lower);
            Edges.allRight(x);
        }
        // the upper two at a FAULT below them both: from s = 9 of LINE 3 on LINE 2's waits 30, LINE 1's 25
        BreakerRows y = Edges.pair(25, 1, 5, 1);
        y.line(2, 10);
        y.corner(3, 10, 30);
        y.corner(3, 400, 10);
        y.breaker(2, 3, 1, 1);
        y.breaker(3, 2, 1, 1);
        Edges.dueRight(y, 3, 3, 9, 0);
        y.dial(1, 2);
        Edges.allRight(y);
    }

    private static void justTheLimit() {
        BreakerRows x = Edges.one(3, 1);
        x.corner(0, 10, 7);
        x.told(1, 21, 0);
        Edges.allRight(x);
        x.told(1, 20, 0);
        Edges.dueRight(x, 3, 1, 0, 0);
        x.told(1, 22, 0);
        Edges.allRight(x);
        // by a slower CORNER farther down the LINE: the current is under 250 from s = 6 on
        x.corner(0, 500, 6);
        x.breaker(1, 0, 3, 5);
        x.told(1, 20, 0);
        Edges.dueRight(x, 3, 1, 6, 0);
    }

    private static void limitIsTheKeepers() {
        // LINE 1's waits 50, but at FAULTS of LINE 2 it is LINE 2's, with 5, that keeps
        BreakerRows x = new BreakerRows();
        x.line(0, 9);
        x.line(1, 10);
        x.corner(0, 10, 50);
        x.corner(0, 100, 10);
        x.breaker(1, 0, 1, 10);
        x.corner(1, 10, 5);
        x.breaker(2, 1, 1, 1);
        x.told(1, 10, 0);
        Edges.due(x.waits(1, 1, 16, 0), 10);
        Edges.due(x.waits(1, 2, 16, 0), 50);
        Edges.allRight(x);
        // without LINE 2's it keeps LINE 2
        x.remove(2);
        Edges.dueRight(x, 3, 2, 1, 0);
        x.told(1, 49, 0);
        Edges.dueRight(x, 3, 2, 1, 0);
        x.told(1, 50, 0);
        Edges.allRight(x);
    }

    private static void limits() {
        BreakerRows x = Edges.one(1, 1);
        x.corner(0, 10, 1);
        Edges.due(x.about(5), 100000);
        Edges.yes(x.told(1, 1, 0));
        Edges.allRight(x);
        x.dial(1, 2);
        Edges.dueRight(x, 3, 1, 0, 0);
        for (int limit : Edges.outside(1, 100000)) {
            Edges.no(x.told(1, limit, 0));
        }
        Edges.dueRight(x, 3, 1, 0, 0);
        // the longest WAIT of all is below the greatest LIMIT
        BreakerRows y = Edges.one(40, 1);
        y.corner(0, 10, 1000);
        Edges.allRight(y);
        Edges.yes(y.told(1, 40000, 0));
        Edges.allRight(y);
        Edges.yes(y.told(1, 39999, 0));
        Edges.dueRight(y, 3, 1, 0, 0);
        Edges.yes(y.told(1, 100000, 0));
        Edges.allRight(y);
    }

    private static void failingIsRight() {
        BreakerRows x = Edges.pair(10, 2, 10, 1);
        x.fails(1, true);
        x.fails(2, true);
        Edges.allRight(x);
        x.told(11, 100000, 0);
        Edges.dueRight(x, 3, 2, 0, 0);
        x.told(1, 9, 0);
        Edges.dueRight(x, 3, 1, 0, 0);
    }

    private static void loadsBehindAll() {
        BreakerRows x = Edges.star(2);
        x.load(1, 1);
        Edges.dueRight(x, 4, 1, NONE, NONE);
        // whatever a later LINE has comes ahead
        x.line(0, 1);
        Edges.dueRight(x, 1, 3, NONE, NONE);
        x.breaker(3, 7, 1, 1);
        Edges.dueRight(x, 2, 3, 0, 0);
        x.breaker(3, 0, 2, 1);
        x.told(1, 5, 0);
        Edges.dueRight(x, 3, 3, 0, 0);
        x.dial(3, 1);
        Edges.dueRight(x, 4, 1, NONE, NONE);
        // the first LINE of 4
        x.load(3, 1);
        x.load(2, 1);
        Edges.dueRight(x, 4, 1, NONE, NONE);
        x.load(1, 0);
        Edges.dueRight(x, 4, 2, NONE, NONE);
        x.load(2, 0);
        Edges.dueRight(x, 4, 3, NONE, NONE);
        x.load(3, 0);
        Edges.allRight(x);
    }

    private static void loadJustSeen() {
        // 10 times 24 is 12 times 20; with 25 tenths 15 times 25 is 375: 37 isn't, 38 is
        BreakerRows x = Edges.one(1, 12);
        x.corner(0, 20, 5);
        x.load(1, 23);
        Edges.allRight(x);
        x.load(1, 24);
        Edges.dueRight(x, 4, 1, NONE, NONE);
        x.corner(1, 25, 5);
        x.breaker(1, 1, 1, 15);
        x.load(1, 37);
        Edges.allRight(x);
        x.load(1, 38);
        Edges.dueRight(x, 4, 1, NONE, NONE);
        // no LOAD is never seen, and 1000 is by a PICK of 1000, not of 1001
        BreakerRows y = Edges.star(1);
        y.load(1, 0);
        Edges.allRight(y);
        y.source(10000, 1);
        y.load(1, 1000);
        y.breaker(1, 0, 1, 1000);
        Edges.dueRight(y, 4, 1, NONE, NONE);
        y.breaker(1, 0, 1, 1001);
        Edges.allRight(y);
        y.load(1, 999);
        y.breaker(1, 0, 1, 1000);
        Edges.allRight(y);
    }

    private static void loadsBelow() {
        // 1 from 0, 2 from 1, 3 from 1, 4 from 0; BREAKERS at 1 and 4 that SEE 10
        BreakerRows x = new BreakerRows();
        for (int from : new int[] {0, 1, 1, 0}) {
            x.line(from, 1);
        }
        x.corner(0, 10, 5);
        x.breaker(1, 0, 1, 10);
        x.breaker(4, 0, 1, 10);
        x.load(0, 1000);
        x.load(2, 4);
        x.load(3, 5);
        Edges.allRight(x);
        x.load(1, 1);
        Edges.dueRight(x, 4, 1, NONE, NONE);
        x.load(1, 0);
        x.load(4, 10);
        Edges.dueRight(x, 4, 4, NONE, NONE);
        x.load(4, 9);
        Edges.allRight(x);
    }

    // ---- promises 11, 12, 13, 16

    private static void lineOfNoKeeper() {
        BreakerRows x = Edges.row(2);
        Edges.none(x.lineOf(1, 1));
        Edges.none(x.lineOf(1, 2));
        Edges.none(x.lineOf(2, 1));
        Edges.none(x.lineOf(2, 2));
        x.breaker(2, 0, 1, 1);
        Edges.none(x.lineOf(1, 1));
        Edges.due(x.lineOf(2, 1), 2);
        Edges.none(x.lineOf(2, 2));
    }

    private static void lineOfNoBreaker() {
        BreakerRows x = Edges.row(2);
        x.load(2, 3);
        x.goal();
        Edges.due(x.lineOf(2, 0), 1);
        Edges.due(x.lineOf(2, 3), 3);
        Edges.due(x.lineOf(2, 4), 0);
        for (int what = 5; what <= 9; what++) {
            Edges.none(x.lineOf(2, what));
        }
        x.breaker(2, 7, 40, 10000);
        x.fails(2, true);
        x.goal();
        int[] have = {1, 7, 40, 10000, 1, 40};
        for (int what = 4; what <= 9; what++) {
            Edges.due(x.lineOf(2, what), have[what - 4]);
        }
        x.remove(2);
        Edges.due(x.lineOf(2, 4), 0);
        for (int what = 5; what <= 9; what++) {
            Edges.none(x.lineOf(2, what));
        }
    }

    private static void lineOfGoal() {
        BreakerRows x = Edges.star(1);
        Edges.none(x.lineOf(1, 9));
        x.goal();
        Edges.due(x.lineOf(1, 9), 1);
        x.dial(1, 40);
        Edges.due(x.lineOf(1, 9), 1);
        x.goal();
        Edges.due(x.lineOf(1, 9), 40);
    }

    private static void lineOfOthers() {
        BreakerRows x = Edges.rich();
        for (int k : Edges.outside(1, 4)) {
            for (int what = 0; what <= 9; what++) {
                Edges.none(x.lineOf(k, what));
            }
        }
        for (int what : Edges.outside(0, 9)) {
            for (int k = 1; k <= 4; k++) {
                Edges.none(x.lineOf(k, what));
            }
        }
    }

    private static void currentIsCut() {
        BreakerRows x = Edges.row(1);
        x.source(1, 3);
        Edges.due(x.fault(1, 0, 0, 1), 33);
        x.source(2, 3);
        Edges.due(x.fault(1, 0, 0, 1), 66);
        x.source(3, 3);
        Edges.due(x.fault(1, 0, 0, 1), 100);
        Edges.due(x.fault(1, 1, 0, 1), 97);
        x.source(1, 100);
        Edges.due(x.fault(1, 0, 0, 1), 1);
        Edges.due(x.fault(1, 1, 0, 1), 0);
    }

    private static void faultOthers() {
        BreakerRows x = Edges.rich();
        for (int k : Edges.outside(1, 4)) {
            Edges.none(x.fault(k, 0, 0, 0));
            Edges.none(x.fault(k, 0, 0, 1));
        }
        for (int what : Edges.outside(0, 1)) {
            Edges.none(x.fault(1, 0, 0, what));
        }
        Edges.none(new BreakerRows().fault(0, 0, 0, 0));
    }

    private static void waitsNone() {
        BreakerRows x = Edges.pair(10, 1, 10, 1);
        x.line(1, 10);
        x.line(2, 10);
        x.breaker(3, 1, 1, 1);
        Edges.none(x.waits(4, 4, 0, 0));
        Edges.none(x.waits(3, 2, 0, 0));
        Edges.none(x.waits(2, 3, 0, 0));
        Edges.none(x.waits(2, 1, 16, 0));
        Edges.due(x.waits(2, 4, 0, 980), 10);
        Edges.none(x.waits(2, 4, 1, 980));
        Edges.none(x.waits(2, 4, 0, 981));
        // one that FAILS waits all the same
        x.fails(2, true);
        Edges.due(x.waits(2, 4, 0, 980), 10);
        x.remove(2);
        Edges.none(x.waits(2, 4, 0, 980));
    }

    private static void waitsOthers() {
        BreakerRows x = Edges.rich();
        for (int b : Edges.outside(1, 4)) {
            Edges.none(x.waits(b, 1, 0, 0));
            Edges.none(x.waits(b, b, 0, 0));
        }
        for (int k : Edges.outside(1, 4)) {
            Edges.none(x.waits(1, k, 0, 0));
        }
    }

    private static void rightOfAll() {
        BreakerRows x = new BreakerRows();
        Edges.allRight(x);
        x.line(0, 9);
        Edges.dueRight(x, 1, 1, NONE, NONE);
        x.breaker(1, 0, 2, 101);
        Edges.dueRight(x, 2, 1, 0, 0);
        x.corner(0, 10, 5);
        Edges.dueRight(x, 2, 1, 16, 0);
        x.breaker(1, 0, 2, 100);
        x.told(1, 9, 0);
        Edges.dueRight(x, 3, 1, 0, 0);
        x.told(1, 10, 0);
        x.load(1, 100);
        Edges.dueRight(x, 4, 1, NONE, NONE);
        x.load(1, 99);
        Edges.allRight(x);
    }

    private static void rightOfTheBreaker() {
        // the LOAD is at KNOT 3; of LINES 2 and 3 only LINE 2 has a BREAKER, and LINE 1's SEES more alone
        BreakerRows x = Edges.row(3);
        x.corner(0, 10, 5);
        x.breaker(1, 0, 2, 100);
        x.breaker(2, 0, 1, 10);
        x.load(3, 10);
        Edges.due(x.right(0), 4);
        Edges.due(x.right(1), 2);
        x.load(3, 100);
        Edges.due(x.right(0), 4);
        Edges.due(x.right(1), 1);
    }

    private static void rightWithoutPlace() {
        BreakerRows x = Edges.star(2);
        for (int what = 1; what <= 3; what++) {
            Edges.none(x.right(what));
        }
        x.load(2, 1);
        Edges.due(x.right(1), 2);
        Edges.none(x.right(2));
        Edges.none(x.right(3));
        x.remove(1);
        Edges.due(x.right(1), 1);
        Edges.none(x.right(2));
        Edges.none(x.right(3));
        // place 0 and resistance 0 are some
        x.breaker(1, 7, 1, 1);
        Edges.due(x.right(2), 0);
        Edges.due(x.right(3), 0);
    }

    private static void rightOthers() {
        // all is RIGHT; 1; 2 by LAST; 3
        BreakerRows late = Edges.star(1);
        late.told(1, 100000, 1000);
        Edges.dueRight(late, 2, 1, 0, 1000);
        BreakerRows[] all = {Edges.rich(), Edges.row(1), late, Edges.pair(1, 1, 1, 1)};
        for (BreakerRows x : all) {
            for (int what : Edges.outside(0, 3)) {
                Edges.none(x.right(what));
            }
        }
    }

    // ---- promises 14, 15

    private static void runOthers() {
        BreakerRows x = Edges.rich();
        for (int k : Edges.outside(1, 4)) {
            Edges.none(x.run(k, 0, 0));
            Edges.none(x.arc(k, 0, 0));
        }
        Edges.due(x.run(1, 0, 0), 40);
        Edges.none(new BreakerRows().run(0, 0, 0));
    }

    private static void runRefused() {
        for (int k : Edges.outside(1, 4)) {
            Edges.refused(x -> x.run(k, 0, 0) == NONE);
        }
        for (int s : Edges.outside(0, 16)) {
            Edges.refused(x -> x.run(1, s, 0) == NONE);
        }
        for (int f : Edges.outside(0, 1000)) {
            Edges.refused(x -> x.run(1, 0, f) == NONE);
        }
    }

    private static void latestRun() {
        BreakerRows x = Edges.star(2);
        Edges.due(x.run(1, 0, 0), 5);
        Edges.due(x.ran(1, 0), 1);
        Edges.due(x.run(2, 0, 0), 5);
        Edges.due(x.ran(1, 0), 0);
        Edges.due(x.ran(2, 0), 1);
        // it is asked as often as one likes
        Edges.due(x.ran(2, 0), 1);
        Edges.due(x.ran(2, 1), 1);
        // no FAULT: no run
        Edges.none(x.run(3, 0, 0));
        Edges.none(x.run(1, 17, 0));
        Edges.none(x.run(1, 0, 1001));
        Edges.due(x.ran(2, 0), 1);
    }

    private static void runNotCleared() {
        BreakerRows x = Edges.star(2);
        Edges.none(x.run(1, 0, 1000));
        Edges.due(x.ran(1, 0), 0);
        Edges.due(x.ran(1, 1), 0);
        Edges.due(x.ran(0, 1), 0);
        // behind one that was cleared, too
        Edges.due(x.run(1, 0, 0), 5);
        Edges.none(x.run(2, 0, 1000));
        for (int b = 1; b <= 2; b++) {
            Edges.due(x.ran(b, 0), 0);
            Edges.due(x.ran(b, 1), 0);
        }
    }

    private static void ranOthers() {
        BreakerRows x = Edges.rich();
        Edges.none(x.ran(4, 0));
        Edges.due(x.ran(4, 1), 1);
        Edges.none(x.ran(0, 0));
        Edges.due(x.ran(0, 1), 0);
        for (int b : Edges.outside(1, 4)) {
            Edges.none(x.ran(b, 0));
        }
        for (int b : Edges.outside(0, 4)) {
            Edges.none(x.ran(b, 1));
        }
        for (int what : Edges.outside(0, 1)) {
            for (int b = 0; b <= 4; b++) {
                Edges.none(x.ran(b, what));
            }
        }
    }

    private static void ranWithoutRun() {
        BreakerRows x = Edges.star(2);
        for (int b = -1; b <= 3; b++) {
            Edges.none(x.ran(b, 0));
            Edges.none(x.ran(b, 1));
        }
        // a run that is refused is none
        Edges.none(x.run(3, 0, 0));
        Edges.none(x.ran(1, 0));
        Edges.none(x.ran(0, 1));
        // nor are these
        x.arc(1, 0, 0);
        x.waits(1, 1, 0, 0);
        x.worst();
        Edges.none(x.ran(1, 0));
    }

    /** The call may even leave all as it was: the run is gone, and another can be run. */
    private static void goneBehind(java.util.function.Predicate<BreakerRows> call) {
        BreakerRows x = Edges.rich();
        Edges.due(x.ran(4, 1), 1);
        Edges.due(x.ran(1, 0), 0);
        Edges.yes(call.test(x));
        for (int b = -1; b <= 6; b++) {
            Edges.none(x.ran(b, 0));
            Edges.none(x.ran(b, 1));
        }
        Edges.yes(x.run(1, 0, 0) != NONE);
        Edges.due(x.ran(1, 0), 1);
    }

    private static void staysBehindNoFit() {
        BreakerRows x = Edges.pair(10, 2, 10, 1);
        x.told(391, 100000, 0);
        Edges.due(x.run(2, 0, 0), 10);
        Edges.none(x.fit());
        Edges.due(x.ran(2, 0), 1);
        Edges.due(x.ran(2, 1), 1);
        Edges.due(x.ran(1, 1), 0);
    }

    private static void staysBehindOthers() {
        BreakerRows x = Edges.rich();
        x.goal();
        x.change();
        x.step(0);
        x.about(1);
        x.lineOf(1, 1);
        x.fault(1, 0, 0, 0);
        x.waits(1, 1, 0, 0);
        x.right(0);
        x.arc(1, 0, 0);
        x.worst();
        x.growth();
        Edges.due(x.ran(2, 0), 1);
        Edges.due(x.ran(1, 0), 0);
        Edges.due(x.ran(4, 1), 1);
        Edges.due(x.ran(3, 1), 0);
    }
}
