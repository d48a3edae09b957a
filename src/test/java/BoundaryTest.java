/**
 * For each sentence of the document that names a boundary case, a test of its own. Each method
 * begins with the words that it tests, and makes objects of its own. What refused calls leave
 * unchanged is tested once more, as a whole, in RefusedTest.
 */
public final class BoundaryTest {
    private static final int BAD_ARG = -1;
    private static final int FULL = -2;
    private static final int TOO_FEW = -3;
    private static final int NONE = -4;

    private static final int NOT = 0;
    private static final int SOME_NEXT = 1;
    private static final int SOME_EVER = 2;
    private static final int SOME_ALWAYS = 3;
    private static final int ALL_NEXT = 4;
    private static final int ALL_EVER = 5;
    private static final int ALL_ALWAYS = 6;
    private static final int AND = 0;
    private static final int OR = 1;
    private static final int SOME_UNTIL = 2;
    private static final int ALL_UNTIL = 3;

    // Far numbers that a shift, a mask or a narrower type would turn into allowed ones.
    private static final int[] FAR = {
        Integer.MIN_VALUE, Integer.MIN_VALUE + 1, Integer.MAX_VALUE, Integer.MAX_VALUE - 1,
        1 << 16, (1 << 16) + 3, -(1 << 16), 1 << 30, (1 << 24) + 1, -(1 << 24),
    };

    private static int wrong = 0;
    private static int tests = 0;
    private static String words = "";

    public static void main(String[] args) {
        terms();
        promises1To5();
        promises6To10();
        promises11To17();
        System.out.println(wrong == 0 ? "all answers are as due in " + tests + " tests"
            : wrong + " answers are not as due");
        if (wrong != 0) {
            System.exit(1);
        }
    }

    private static void terms() {
        theConstants();
        used512Calls();
        noCallEverThrows();
        statesAre0To7();
        aSetIs0To255();
        anArcToItself();
        marksAre0To3();
        atMost3Demands();
        withoutDemandsEveryRunIsFair();
        anEmptyDemandIsNeverMet();
        aRunIsEndless();
        endlesslyOftenIsNotOnce();
        secondStateOfSomeNext();
        theFirstCountsForEver();
        theFirstCountsForAlways();
        allHoldsWhereNoFairRunBegins();
        someHoldsNowhereWithoutFairRuns();
        allNextIsOfFairRunsAlone();
        untilAtOnceNeedsNoF();
        untilAsksForGInTheEnd();
        untilTheFirstSuchOne();
    }

    private static void promises1To5() {
        newHasNoArc();
        newHasEmptyMarks();
        newHasNoDemand();
        newHasAnEmptyStack();
        arcsToExactlyTheSet();
        arcsStateOutOfRange();
        arcsSetOutOfRange();
        arcsAnswersTheSetBefore();
        markNumberOutOfRange();
        markSetOutOfRange();
        markAnswersTheSetBefore();
        demandSetOutOfRange();
        demandFull();
        demandBadArgBeforeFull();
        demandAnswersTheNumber();
        undemandNone();
        undemandRemovesTheLast();
    }

    private static void promises6To10() {
        pushOutOfRange();
        pushStackHolds6();
        push20Made();
        pushBadArgBeforeFull();
        pushSinceLastEmptied();
        pushAnswersTheNumber();
        oneOutOfRange();
        oneEmptyStack();
        one20Made();
        oneBadArgFirst();
        oneInTheTopsPlace();
        twoOutOfRange();
        twoFewerThanTwo();
        two20Made();
        twoBadArgFirst();
        twoTooFewBeforeFull();
        twoGIsTheTop();
        twoTakesTwoOff();
        discardEmptiesTheStack();
        discardNoFormulaCounts();
        discardOfAnEmptyStack();
        depthFrom0To6();
    }

    private static void promises11To17() {
        holdsEmptyStack();
        holdsNowhereAndEverywhere();
        holdsAsOfNow();
        alikeFewerThanTwo();
        alikeOfTwo();
        fairNowhereAndEverywhere();
        reachOutOfRange();
        reachOfAnyKind();
        reachOfTheWholeMachine();
        stepsOutOfRangeFirst();
        stepsEmptyStack();
        stepsNoSuchWay();
        stepsZeroAtOnce();
        stepsSeven();
        knotsOfOneState();
        knotsWithinTheSet();
        knotsAreGreatest();
        knotsEightAtMost();
        knotsEmptySetDoesNotCount();
    }

    private static void test(String sentence) {
        words = sentence;
        tests++;
    }

    private static void due(String call, int got, int want) {
        if (got != want) {
            wrong++;
            System.out.println("\"" + words + "\": " + call + " answered " + got + ", due is " + want);
        }
    }

    private static void due(String call, boolean got, boolean want) {
        due(call, got ? 1 : 0, want ? 1 : 0);
    }

    private interface Call {
        int with(FairRuns x, int argument);
    }

    private interface Maker {
        FairRuns make();
    }

    /** Calls with the numbers below 0 and above the greatest, near and far, all on one object. */
    private static void dueOutside(String name, int greatest, int want, Maker maker, Call call) {
        FairRuns x = maker.make();
        for (int i = -140; i <= greatest + 140; i++) {
            if (i < 0 || i > greatest) {
                due(name + "(" + i + ")", call.with(x, i), want);
            }
        }
        for (int i : FAR) {
            due(name + "(" + i + ")", call.with(x, i), want);
        }
    }

    private static FairRuns oneState(int mark0) {
        FairRuns x = new FairRuns();
        x.arcs(0, 1);
        x.mark(0, mark0);
        return x;
    }

    /** The first n states in a line: from each an arc leads to the next one, from the last none. */
    private static FairRuns line(int n) {
        FairRuns x = new FairRuns();
        for (int s = 0; s + 1 < n; s++) {
            x.arcs(s, 2 << s);
        }
        return x;
    }

    private static FairRuns stackOf(int n) {
        FairRuns x = new FairRuns();
        for (int i = 0; i < n; i++) {
            x.push(0);
        }
        return x;
    }

    /** A stack of n formulas after m were made. */
    private static FairRuns made(int n, int m) {
        FairRuns x = stackOf(n);
        for (int i = n; i < m; i++) {
            x.one(NOT);
        }
        return x;
    }

    private static int holdsOne(FairRuns x, int op) {
        x.discard();
        x.push(0);
        x.one(op);
        return x.holds();
    }

    private static int holdsTwo(FairRuns x, int op) {
        x.discard();
        x.push(0);
        x.push(1);
        x.two(op);
        return x.holds();
    }

    // What it is, and terms

    private static void theConstants() {
        test("BAD_ARG = -1, FULL = -2, TOO_FEW = -3, NONE = -4");
        due("BAD_ARG", FairRuns.BAD_ARG, -1);
        due("FULL", FairRuns.FULL, -2);
        due("TOO_FEW", FairRuns.TOO_FEW, -3);
        due("NONE", FairRuns.NONE, -4);
    }

    private static void used512Calls() {
        test("An object is used for at most 512 calls");
        FairRuns x = new FairRuns();
        int calls = 0;
        for (int round = 0; round < 23; round++) {
            due("push", x.push(0), 1);
            for (int i = 0; i < 19; i++) {
                due("one", x.one(NOT), 1);
            }
            due("one", x.one(NOT), FULL);
            x.discard();
            calls += 22;
        }
        x.arcs(7, 128);
        x.mark(3, 128);
        x.push(3);
        x.one(SOME_ALWAYS);
        x.demand(128);
        calls += 5;
        due("the 512th call", x.holds(), 128);
        due("calls", calls + 1, 512);
    }

    private static void noCallEverThrows() {
        test("No call ever throws");
        int[] numbers = new int[FAR.length + 40];
        System.arraycopy(FAR, 0, numbers, 0, FAR.length);
        for (int i = 0; i < 40; i++) {
            numbers[FAR.length + i] = i < 20 ? i - 10 : i + 226;
        }
        FairRuns[] objects = {
            new FairRuns(), stackOf(1), stackOf(2), stackOf(6), made(1, 20), made(2, 20), made(6, 20),
        };
        for (FairRuns x : objects) {
            try {
                for (int n : numbers) {
                    callAll(x, n);
                }
            } catch (RuntimeException e) {
                due("a call threw " + e + ": 1", 1, 0);
            }
        }
    }

    private static void callAll(FairRuns x, int n) {
        x.arcs(n, n);
        x.mark(n, n);
        x.reach(n);
        x.steps(n);
        if (n < 0 || n > 6) {
            x.push(n);
            x.one(n);
            x.two(n);
        }
        x.holds();
        x.alike();
    }

    private static void statesAre0To7() {
        test("STATES are 0 to 7");
        for (int s = 0; s < 8; s++) {
            FairRuns x = new FairRuns();
            due("arcs of " + s, x.arcs(s, 1 << s), 0);
            due("fair with " + s, x.fair(), 1 << s);
            due("reach of " + s, x.reach(s), 1 << s);
            x.push(0);
            due("steps of " + s, x.steps(s), NONE);
        }
    }

    private static void aSetIs0To255() {
        test("a set of states is the number that has 2 to the power s added up (0 to 255)");
        for (int set = 0; set <= 255; set++) {
            FairRuns x = new FairRuns();
            due("arcs", x.arcs(7, set), 0);
            due("arcs again", x.arcs(7, 0), set);
            due("mark", x.mark(3, set), 0);
            x.push(3);
            due("holds", x.holds(), set);
            due("mark again", x.mark(3, 0), set);
            due("demand", x.demand(set), 1);
            due("undemand", x.undemand(), set);
        }
    }

    private static void anArcToItself() {
        test("ARCS may lead to states (to itself too)");
        for (int s = 0; s < 8; s++) {
            FairRuns x = new FairRuns();
            x.arcs(s, 1 << s);
            x.mark(0, 1 << s);
            due("fair", x.fair(), 1 << s);
            due("some-next", holdsOne(x, SOME_NEXT), 1 << s);
            due("knots", x.knots(), 1);
        }
    }

    private static void marksAre0To3() {
        test("There are four MARKS 0 to 3, each a set of states");
        FairRuns x = new FairRuns();
        for (int k = 0; k < 4; k++) {
            due("mark " + k, x.mark(k, 1 << k), 0);
        }
        for (int k = 0; k < 4; k++) {
            due("push " + k, x.push(k), k + 1);
            due("holds of mark " + k, x.holds(), 1 << k);
        }
    }

    private static void atMost3Demands() {
        test("at most 3 DEMANDS, each a set of states");
        // All states lead to all, so that each demand can be met until one is the empty set.
        for (int empty = 0; empty < 3; empty++) {
            FairRuns x = new FairRuns();
            for (int s = 0; s < 8; s++) {
                x.arcs(s, 255);
            }
            for (int i = 0; i < 3; i++) {
                due("demand", x.demand(i == empty ? 0 : 1 << i), i + 1);
                due("fair after demand " + (i + 1), x.fair(), i < empty ? 255 : 0);
            }
        }
        // Three demands that only the great circle meets together.
        FairRuns x = line(8);
        x.arcs(7, 1);
        x.demand(1);
        x.demand(8);
        x.demand(128);
        due("fair", x.fair(), 255);
        x.mark(0, 127);
        due("some-always without 7", holdsOne(x, SOME_ALWAYS), 0);
        due("all-always without 7", holdsOne(x, ALL_ALWAYS), 0);
    }

    private static void withoutDemandsEveryRunIsFair() {
        test("without demands every run is fair");
        FairRuns x = line(8);
        x.arcs(7, 128);
        due("fair", x.fair(), 255);
        x.demand(1);
        due("fair with a demand", x.fair(), 0);
        x.undemand();
        due("fair without it", x.fair(), 255);
        x.demand(255);
        due("fair with the demand of all", x.fair(), 255);
    }

    private static void anEmptyDemandIsNeverMet() {
        test("It is FAIR if for every demand it has states of that set: of the empty set never");
        FairRuns x = new FairRuns();
        for (int s = 0; s < 8; s++) {
            x.arcs(s, 255);
        }
        x.mark(0, 255);
        x.demand(0);
        due("fair", x.fair(), 0);
        due("some-always", holdsOne(x, SOME_ALWAYS), 0);
        x.mark(0, 0);
        due("all-ever", holdsOne(x, ALL_EVER), 255);
        due("all-next", holdsOne(x, ALL_NEXT), 255);
        due("all-always", holdsOne(x, ALL_ALWAYS), 255);
    }

    private static void aRunIsEndless() {
        test("A RUN from s is an endless list of states");
        for (int n = 1; n <= 8; n++) {
            FairRuns x = line(n);
            x.mark(0, 255);
            due("fair of a line", x.fair(), 0);
            due("some-always of a line", holdsOne(x, SOME_ALWAYS), 0);
            x.arcs(n - 1, 1 << (n - 1));
            due("fair of a line into a circle", x.fair(), (1 << n) - 1);
            due("some-always of a line into a circle", holdsOne(x, SOME_ALWAYS), (1 << n) - 1);
        }
    }

    private static void endlesslyOftenIsNotOnce() {
        test("it has states of that set endlessly often");
        FairRuns x = line(8);
        x.arcs(6, 64 + 128);
        x.arcs(7, 64);
        x.demand(63);
        due("fair, met six times at first", x.fair(), 0);
        x.undemand();
        x.demand(128);
        due("fair, met at will", x.fair(), 255);
        x.arcs(7, 0);
        due("fair, met once at the end of all ways", x.fair(), 0);
    }

    private static void secondStateOfSomeNext() {
        test("some-next F: a fair run begins whose second state is one where F holds");
        // 0 -> 1 -> 2 -> 2, and from 0 an arc to 3, where the way ends.
        FairRuns x = line(3);
        x.arcs(0, 10);
        x.arcs(2, 4);
        x.mark(0, 1);
        due("of the first state", holdsOne(x, SOME_NEXT), 0);
        x.mark(0, 2);
        due("of the second", holdsOne(x, SOME_NEXT), 1);
        x.mark(0, 4);
        due("of the third", holdsOne(x, SOME_NEXT), 6);
        x.mark(0, 8);
        due("of one that no run has", holdsOne(x, SOME_NEXT), 0);
    }

    private static void theFirstCountsForEver() {
        test("some-ever F: some state (the first counts) is one where F holds");
        FairRuns x = line(2);
        x.arcs(1, 2);
        x.mark(0, 1);
        due("some-ever", holdsOne(x, SOME_EVER), 1);
        due("all-ever", holdsOne(x, ALL_EVER), 253);
        x.arcs(1, 0);
        due("some-ever, but no run begins", holdsOne(x, SOME_EVER), 0);
    }

    private static void theFirstCountsForAlways() {
        test("some-always F: of which all states are such");
        FairRuns x = line(2);
        x.arcs(1, 2);
        x.mark(0, 2);
        due("some-always, not at the first", holdsOne(x, SOME_ALWAYS), 2);
        due("all-always, not at the first", holdsOne(x, ALL_ALWAYS), 254);
        x.demand(2);
        due("some-always, not at the first, with a demand", holdsOne(x, SOME_ALWAYS), 2);
        x.undemand();
        x.mark(0, 1);
        due("some-always, at the first alone", holdsOne(x, SOME_ALWAYS), 0);
        due("all-always, at the first alone", holdsOne(x, ALL_ALWAYS), 252);
        x.mark(0, 255);
        due("some-always of all", holdsOne(x, SOME_ALWAYS), 3);
        x.mark(0, 0);
        due("all-always of nothing", holdsOne(x, ALL_ALWAYS), 252);
    }

    private static void allHoldsWhereNoFairRunBegins() {
        test("all fair runs that begin at s (so they hold where no fair run begins)");
        // 0 -> 0, and 1 -> 2, where the way ends; 3 -> 3 is taken away by the demand.
        FairRuns x = oneState(0);
        x.arcs(1, 4);
        x.arcs(3, 8);
        x.demand(1);
        due("all-next", holdsOne(x, ALL_NEXT), 254);
        due("all-ever", holdsOne(x, ALL_EVER), 254);
        due("all-always", holdsOne(x, ALL_ALWAYS), 254);
        due("all until", holdsTwo(x, ALL_UNTIL), 254);
    }

    private static void someHoldsNowhereWithoutFairRuns() {
        test("some-..., if from s a fair run begins: not where none does");
        FairRuns x = line(8);
        x.mark(0, 255);
        x.mark(1, 255);
        due("some-next", holdsOne(x, SOME_NEXT), 0);
        due("some-ever", holdsOne(x, SOME_EVER), 0);
        due("some-always", holdsOne(x, SOME_ALWAYS), 0);
        due("some until", holdsTwo(x, SOME_UNTIL), 0);
    }

    private static void allNextIsOfFairRunsAlone() {
        test("all-next F: the same with all fair runs that begin at s");
        // 0 -> 1, 2, 3; 1 -> 1; 2 -> 2; from 3 no arc.
        FairRuns x = new FairRuns();
        x.arcs(0, 14);
        x.arcs(1, 2);
        x.arcs(2, 4);
        x.mark(0, 2);
        due("two ways", holdsOne(x, ALL_NEXT), 250);
        x.demand(2);
        due("one of them fair", holdsOne(x, ALL_NEXT), 255);
    }

    private static void untilAtOnceNeedsNoF() {
        test("some F until G: all states before which are ones where F holds: none are before the first");
        FairRuns x = oneState(0);
        x.mark(1, 1);
        due("some until", holdsTwo(x, SOME_UNTIL), 1);
        due("all until", holdsTwo(x, ALL_UNTIL), 255);
        x.arcs(0, 0);
        due("some until, but no run begins", holdsTwo(x, SOME_UNTIL), 0);
    }

    private static void untilAsksForGInTheEnd() {
        test("some F until G: a fair run begins that has a state where G holds");
        FairRuns x = oneState(255);
        x.arcs(1, 1 + 2 + 4);
        due("some until, G empty", holdsTwo(x, SOME_UNTIL), 0);
        due("all until, G empty", holdsTwo(x, ALL_UNTIL), 252);
        x.mark(1, 4);
        due("some until, G off all runs", holdsTwo(x, SOME_UNTIL), 0);
        x.mark(1, 1);
        due("some until, G if 1 is left", holdsTwo(x, SOME_UNTIL), 3);
        due("all until, G if 1 is left", holdsTwo(x, ALL_UNTIL), 253);
        x.demand(1);
        due("all until, 1 must be left", holdsTwo(x, ALL_UNTIL), 255);
    }

    private static void untilTheFirstSuchOne() {
        test("all states before which (the first such one) are ones where F holds");
        // 0 -> 1 -> ... -> 7 -> 0 with G at 3 and 5.
        FairRuns x = line(8);
        x.arcs(7, 1);
        x.mark(0, 1 + 2 + 4);
        x.mark(1, 8 + 32);
        due("some until", holdsTwo(x, SOME_UNTIL), 1 + 2 + 4 + 8 + 32);
        due("all until", holdsTwo(x, ALL_UNTIL), 1 + 2 + 4 + 8 + 32);
        x.mark(0, 1 + 2 + 4 + 64 + 128);
        due("some until all round", holdsTwo(x, SOME_UNTIL), 255 - 16);
        due("all until all round", holdsTwo(x, ALL_UNTIL), 255 - 16);
    }

    // Promise 1

    private static void newHasNoArc() {
        test("A new object: No arc");
        for (int s = 0; s < 8; s++) {
            due("reach " + s, new FairRuns().reach(s), 1 << s);
            due("arcs " + s, new FairRuns().arcs(s, 255), 0);
        }
        due("fair", new FairRuns().fair(), 0);
        due("knots", new FairRuns().knots(), 0);
    }

    private static void newHasEmptyMarks() {
        test("A new object: all marks empty");
        for (int k = 0; k < 4; k++) {
            due("mark " + k, new FairRuns().mark(k, 255), 0);
            FairRuns x = new FairRuns();
            x.push(k);
            due("holds of mark " + k, x.holds(), 0);
        }
    }

    private static void newHasNoDemand() {
        test("A new object: no demand");
        due("undemand", new FairRuns().undemand(), NONE);
        due("demand", new FairRuns().demand(0), 1);
        due("fair with one arc", oneState(0).fair(), 1);
    }

    private static void newHasAnEmptyStack() {
        test("A new object: the stack is empty");
        due("depth", new FairRuns().depth(), 0);
        due("holds", new FairRuns().holds(), NONE);
        due("alike", new FairRuns().alike(), false);
        due("steps", new FairRuns().steps(0), NONE);
        due("one", new FairRuns().one(NOT), TOO_FEW);
        due("two", new FairRuns().two(AND), TOO_FEW);
        due("push", new FairRuns().push(0), 1);
    }

    // Promise 2

    private static void arcsToExactlyTheSet() {
        test("From s arcs lead to exactly the states of the set to");
        FairRuns x = new FairRuns();
        x.arcs(7, 255);
        due("reach with all", x.reach(7), 255);
        x.arcs(7, 1);
        due("reach with one", x.reach(7), 129);
        x.arcs(7, 0);
        due("reach with none", x.reach(7), 128);
    }

    private static void arcsStateOutOfRange() {
        test("arcs: BAD_ARG if s is not 0 to 7");
        dueOutside("arcs", 7, BAD_ARG, FairRuns::new, (x, s) -> x.arcs(s, 255));
        dueOutside("arcs", 7, BAD_ARG, FairRuns::new, (x, s) -> x.arcs(s, 0));
        FairRuns x = new FairRuns();
        due("least", x.arcs(0, 1), 0);
        due("greatest", x.arcs(7, 1), 0);
    }

    private static void arcsSetOutOfRange() {
        test("arcs: BAD_ARG if to is not 0 to 255");
        dueOutside("arcs", 255, BAD_ARG, FairRuns::new, (x, to) -> x.arcs(0, to));
        dueOutside("arcs", 255, BAD_ARG, FairRuns::new, (x, to) -> x.arcs(7, to));
        dueOutside("arcs", 255, BAD_ARG, FairRuns::new, (x, to) -> x.arcs(to, to));
        FairRuns x = new FairRuns();
        due("greatest", x.arcs(0, 255), 0);
        due("least", x.arcs(0, 0), 255);
    }

    private static void arcsAnswersTheSetBefore() {
        test("arcs: Otherwise the set before");
        FairRuns x = new FairRuns();
        due("first", x.arcs(7, 255), 0);
        due("same again", x.arcs(7, 255), 255);
        due("refused", x.arcs(7, 256), BAD_ARG);
        due("after a refused one", x.arcs(7, 0), 255);
        due("last", x.arcs(7, 128), 0);
    }

    // Promise 3

    private static void markNumberOutOfRange() {
        test("mark: BAD_ARG if k is not 0 to 3");
        dueOutside("mark", 3, BAD_ARG, FairRuns::new, (x, k) -> x.mark(k, 255));
        dueOutside("mark", 3, BAD_ARG, FairRuns::new, (x, k) -> x.mark(k, 0));
        FairRuns x = new FairRuns();
        due("least", x.mark(0, 1), 0);
        due("greatest", x.mark(3, 1), 0);
    }

    private static void markSetOutOfRange() {
        test("mark: BAD_ARG if set not 0 to 255");
        dueOutside("mark", 255, BAD_ARG, FairRuns::new, (x, set) -> x.mark(0, set));
        dueOutside("mark", 255, BAD_ARG, FairRuns::new, (x, set) -> x.mark(3, set));
        dueOutside("mark", 255, BAD_ARG, FairRuns::new, (x, set) -> x.mark(set, set));
        FairRuns x = new FairRuns();
        due("greatest", x.mark(0, 255), 0);
        due("least", x.mark(0, 0), 255);
    }

    private static void markAnswersTheSetBefore() {
        test("mark: Otherwise the set before");
        FairRuns x = new FairRuns();
        due("first", x.mark(3, 255), 0);
        due("same again", x.mark(3, 255), 255);
        due("refused", x.mark(3, 256), BAD_ARG);
        due("after a refused one", x.mark(3, 0), 255);
        due("last", x.mark(3, 1), 0);
    }

    // Promise 4

    private static FairRuns threeDemands() {
        FairRuns x = new FairRuns();
        x.demand(1);
        x.demand(2);
        x.demand(4);
        return x;
    }

    private static void demandSetOutOfRange() {
        test("demand: set not 0 to 255 answers BAD_ARG");
        dueOutside("demand", 255, BAD_ARG, FairRuns::new, (x, set) -> x.demand(set));
        FairRuns x = new FairRuns();
        due("least", x.demand(0), 1);
        due("greatest", x.demand(255), 2);
        due("refused", x.demand(256), BAD_ARG);
        due("the last is still", x.undemand(), 255);
    }

    private static void demandFull() {
        test("demand: 3 demands answers FULL");
        for (int set = 0; set <= 255; set++) {
            FairRuns x = threeDemands();
            due("a fourth", x.demand(set), FULL);
            due("the last is still", x.undemand(), 4);
            due("room again", x.demand(set), 3);
            due("full again", x.demand(set), FULL);
        }
    }

    private static void demandBadArgBeforeFull() {
        test("demand: Tested in this order: BAD_ARG, FULL");
        dueOutside("demand", 255, BAD_ARG, BoundaryTest::threeDemands, (x, set) -> x.demand(set));
    }

    private static void demandAnswersTheNumber() {
        test("demand: Otherwise the number of demands");
        FairRuns x = new FairRuns();
        due("first", x.demand(5), 1);
        due("the same set again", x.demand(5), 2);
        due("and again", x.demand(5), 3);
        for (int i = 0; i < 3; i++) {
            due("undemand", x.undemand(), 5);
        }
        due("first again", x.demand(0), 1);
    }

    // Promise 5

    private static void undemandNone() {
        test("undemand: NONE if there is none");
        FairRuns x = new FairRuns();
        due("of a new object", x.undemand(), NONE);
        due("again", x.undemand(), NONE);
        due("the count is not below 0", x.demand(9), 1);
        due("the one", x.undemand(), 9);
        due("none left", x.undemand(), NONE);
        due("refused", x.demand(-1), BAD_ARG);
        due("a refused one is none", x.undemand(), NONE);
        FairRuns y = threeDemands();
        y.demand(8);
        due("third", y.undemand(), 4);
        due("second", y.undemand(), 2);
        due("first", y.undemand(), 1);
        due("none after three", y.undemand(), NONE);
    }

    private static void undemandRemovesTheLast() {
        test("undemand: Removes the last demand. Otherwise the set");
        FairRuns x = oneState(0);
        x.arcs(1, 2);
        x.demand(3);
        x.demand(2);
        x.demand(0);
        due("fair with three", x.fair(), 0);
        due("the empty set", x.undemand(), 0);
        due("fair with two", x.fair(), 2);
        due("then", x.undemand(), 2);
        due("fair with one", x.fair(), 3);
        due("then", x.undemand(), 3);
        due("fair with none", x.fair(), 3);
    }

    // Promise 6

    private static void pushOutOfRange() {
        test("push: k not 0 to 3 answers BAD_ARG");
        dueOutside("push", 3, BAD_ARG, FairRuns::new, (x, k) -> x.push(k));
        dueOutside("push", 3, BAD_ARG, () -> stackOf(3), (x, k) -> x.push(k));
        FairRuns x = new FairRuns();
        due("refused", x.push(4), BAD_ARG);
        due("least", x.push(0), 1);
        due("greatest", x.push(3), 2);
    }

    private static void pushStackHolds6() {
        test("push: the stack holds 6 answers FULL");
        for (int k = 0; k < 4; k++) {
            FairRuns x = stackOf(5);
            due("the sixth", x.push(k), 6);
            due("the seventh", x.push(k), FULL);
            due("depth", x.depth(), 6);
            x.two(OR);
            due("room again", x.push(k), 6);
            due("full again", x.push(k), FULL);
            x.discard();
            due("after discard", x.push(k), 1);
        }
    }

    private static void push20Made() {
        test("push: 20 formulas were made answers FULL");
        for (int n = 1; n <= 5; n++) {
            FairRuns x = made(n, 19);
            due("the twentieth on " + n, x.push(0), n + 1);
            due("the next", x.push(0), FULL);
            FairRuns y = made(n, 20);
            due("the twenty-first on " + n, y.push(0), FULL);
            due("depth", y.depth(), n);
        }
        // 12 pushed and 8 taken together make 20, whatever is left on the stack.
        FairRuns x = stackOf(4);
        for (int i = 0; i < 8; i++) {
            due("push", x.push(0), 5);
            due("two", x.two(AND), 4);
        }
        due("after 12 pushes and 8 of two", x.push(0), FULL);
    }

    private static void pushBadArgBeforeFull() {
        test("push: Tested in this order: BAD_ARG, FULL");
        dueOutside("push", 3, BAD_ARG, () -> stackOf(6), (x, k) -> x.push(k));
        dueOutside("push", 3, BAD_ARG, () -> made(1, 20), (x, k) -> x.push(k));
        dueOutside("push", 3, BAD_ARG, () -> made(6, 20), (x, k) -> x.push(k));
    }

    private static void pushSinceLastEmptied() {
        test("push: 20 formulas were made since it was last emptied");
        FairRuns x = made(1, 19);
        x.discard();
        due("the first since", x.push(0), 1);
        for (int i = 0; i < 18; i++) {
            x.one(NOT);
        }
        due("the twentieth since", x.push(0), 2);
        due("the twenty-first since", x.push(0), FULL);
        // Refused calls make no formula.
        FairRuns y = stackOf(6);
        for (int i = 0; i < 20; i++) {
            due("full", y.push(0), FULL);
            due("bad", y.push(4), BAD_ARG);
            due("bad", y.one(7), BAD_ARG);
            due("bad", y.two(4), BAD_ARG);
        }
        for (int i = 0; i < 14; i++) {
            due("one", y.one(NOT), 6);
        }
        due("one", y.one(NOT), FULL);
    }

    private static void pushAnswersTheNumber() {
        test("push: Otherwise the number on the stack");
        FairRuns x = new FairRuns();
        for (int i = 1; i <= 6; i++) {
            due("push", x.push(i & 3), i);
        }
    }

    // Promise 7

    private static void oneOutOfRange() {
        test("one: op not 0 to 6 answers BAD_ARG");
        dueOutside("one", 6, BAD_ARG, () -> stackOf(1), (x, op) -> x.one(op));
        FairRuns x = stackOf(1);
        x.mark(0, 7);
        due("refused", x.one(7), BAD_ARG);
        due("refused", x.one(-1), BAD_ARG);
        due("top", x.holds(), 7);
        due("least", x.one(0), 1);
        due("not", x.holds(), 248);
        due("greatest", x.one(6), 1);
        due("all-always", x.holds(), 255);
    }

    private static void oneEmptyStack() {
        test("one: empty stack answers TOO_FEW");
        for (int op = 0; op <= 6; op++) {
            FairRuns x = new FairRuns();
            due("one " + op, x.one(op), TOO_FEW);
            due("depth", x.depth(), 0);
            FairRuns y = made(1, 20);
            y.discard();
            due("one " + op + " after discard", y.one(op), TOO_FEW);
            due("a stack of one", stackOf(1).one(op), 1);
        }
    }

    private static void one20Made() {
        test("one: 20 formulas made answers FULL");
        for (int op = 0; op <= 6; op++) {
            for (int n = 1; n <= 6; n++) {
                FairRuns x = made(n, 19);
                due("the twentieth", x.one(op), n);
                int before = x.holds();
                due("the twenty-first", x.one(op), FULL);
                due("depth", x.depth(), n);
                due("top", x.holds(), before);
            }
        }
    }

    private static void oneBadArgFirst() {
        test("one: Tested in this order: BAD_ARG, TOO_FEW, FULL");
        dueOutside("one", 6, BAD_ARG, FairRuns::new, (x, op) -> x.one(op));
        dueOutside("one", 6, BAD_ARG, () -> made(1, 20), (x, op) -> x.one(op));
        dueOutside("one", 6, BAD_ARG, () -> made(6, 20), (x, op) -> x.one(op));
    }

    private static void oneInTheTopsPlace() {
        test("one: Puts a formula of the top F in its place. Otherwise the number on the stack");
        for (int n = 1; n <= 6; n++) {
            FairRuns x = stackOf(n);
            x.mark(0, 170);
            due("one", x.one(NOT), n);
            due("depth", x.depth(), n);
            due("top", x.holds(), 85);
            due("alike with the one below", x.alike(), false);
            x.one(NOT);
            due("alike after not not", x.alike(), n > 1);
        }
    }

    // Promise 8

    private static void twoOutOfRange() {
        test("two: op not 0 to 3 answers BAD_ARG");
        dueOutside("two", 3, BAD_ARG, () -> stackOf(2), (x, op) -> x.two(op));
        FairRuns x = stackOf(3);
        x.mark(0, 9);
        due("refused", x.two(4), BAD_ARG);
        due("refused", x.two(-1), BAD_ARG);
        due("depth", x.depth(), 3);
        due("least", x.two(0), 2);
        due("and", x.holds(), 9);
        due("greatest", x.two(3), 1);
        due("all until", x.holds(), 255);
    }

    private static void twoFewerThanTwo() {
        test("two: fewer than two answers TOO_FEW");
        for (int op = 0; op <= 3; op++) {
            due("of none", new FairRuns().two(op), TOO_FEW);
            FairRuns x = stackOf(1);
            x.mark(0, 3);
            due("of one", x.two(op), TOO_FEW);
            due("depth", x.depth(), 1);
            due("top", x.holds(), 3);
            FairRuns y = stackOf(2);
            due("of two", y.two(op), 1);
            due("of the one left", y.two(op), TOO_FEW);
            y.push(0);
            y.discard();
            due("after discard", y.two(op), TOO_FEW);
        }
    }

    private static void two20Made() {
        test("two: 20 formulas made answers FULL");
        for (int op = 0; op <= 3; op++) {
            for (int n = 2; n <= 6; n++) {
                FairRuns x = made(n, 19);
                due("the twentieth", x.two(op), n - 1);
                due("the twenty-first", x.two(op), n > 2 ? FULL : TOO_FEW);
                FairRuns y = made(n, 20);
                y.mark(0, 3);
                int before = y.holds();
                due("the twenty-first", y.two(op), FULL);
                due("depth", y.depth(), n);
                due("top", y.holds(), before);
            }
        }
    }

    private static void twoBadArgFirst() {
        test("two: Tested in this order: BAD_ARG, TOO_FEW, FULL");
        dueOutside("two", 3, BAD_ARG, FairRuns::new, (x, op) -> x.two(op));
        dueOutside("two", 3, BAD_ARG, () -> stackOf(1), (x, op) -> x.two(op));
        dueOutside("two", 3, BAD_ARG, () -> made(1, 20), (x, op) -> x.two(op));
        dueOutside("two", 3, BAD_ARG, () -> made(2, 20), (x, op) -> x.two(op));
    }

    private static void twoTooFewBeforeFull() {
        test("two: Tested in this order: fewer than two answers TOO_FEW; 20 formulas made answers FULL");
        for (int op = 0; op <= 3; op++) {
            due("one on the stack, 20 made", made(1, 20).two(op), TOO_FEW);
            due("two on the stack, 20 made", made(2, 20).two(op), FULL);
        }
    }

    private static void twoGIsTheTop() {
        test("two: Takes the two topmost off (G the top)");
        FairRuns x = line(2);
        x.arcs(1, 2);
        x.mark(0, 1);
        x.mark(1, 2);
        due("mark 0 until mark 1", holdsTwo(x, SOME_UNTIL), 3);
        due("all mark 0 until mark 1", holdsTwo(x, ALL_UNTIL), 255);
        x.mark(0, 2);
        x.mark(1, 1);
        due("the other way round", holdsTwo(x, SOME_UNTIL), 1);
        due("all, the other way round", holdsTwo(x, ALL_UNTIL), 253);
    }

    private static void twoTakesTwoOff() {
        test("two: Takes the two topmost off and pushes. Otherwise the number on the stack");
        FairRuns x = new FairRuns();
        int[] pushed = {3, 2, 1, 0, 3, 2};
        for (int k = 0; k < 4; k++) {
            x.mark(k, 1 << k);
        }
        for (int k : pushed) {
            x.push(k);
        }
        int want = 4;
        for (int n = 5; n >= 1; n--) {
            want |= 1 << pushed[n - 1];
            due("two of " + (n + 1), x.two(OR), n);
            due("depth", x.depth(), n);
            due("top", x.holds(), want);
        }
    }

    // Promise 9

    private static void discardEmptiesTheStack() {
        test("discard: Empties the stack");
        for (int n = 1; n <= 6; n++) {
            FairRuns x = stackOf(n);
            x.discard();
            due("depth", x.depth(), 0);
            due("holds", x.holds(), NONE);
            due("alike", x.alike(), false);
            due("steps", x.steps(0), NONE);
            due("push", x.push(0), 1);
        }
    }

    private static void discardNoFormulaCounts() {
        test("discard: no formula counts as made");
        FairRuns x = made(6, 20);
        due("20 made", x.one(NOT), FULL);
        x.discard();
        due("push", x.push(0), 1);
        for (int i = 0; i < 19; i++) {
            due("one", x.one(NOT), 1);
        }
        due("20 made again", x.one(NOT), FULL);
    }

    private static void discardOfAnEmptyStack() {
        test("discard: of an empty stack, and of nothing but the stack");
        FairRuns x = oneState(3);
        x.demand(1);
        x.discard();
        x.discard();
        due("depth", x.depth(), 0);
        due("fair", x.fair(), 1);
        due("undemand", x.undemand(), 1);
        due("mark", x.mark(0, 0), 3);
        due("arcs", x.arcs(0, 0), 1);
    }

    // Promise 10

    private static void depthFrom0To6() {
        test("depth: The number on the stack");
        for (int n = 0; n <= 6; n++) {
            FairRuns x = stackOf(n);
            due("depth", x.depth(), n);
            due("depth again", x.depth(), n);
        }
        FairRuns x = stackOf(6);
        x.push(0);
        due("depth after a refused push", x.depth(), 6);
        due("depth with 20 made", made(3, 20).depth(), 3);
    }

    // Promise 11

    private static void holdsEmptyStack() {
        test("holds: NONE if the stack is empty");
        FairRuns x = oneState(255);
        due("of a new stack", x.holds(), NONE);
        x.push(4);
        due("after a refused push", x.holds(), NONE);
        x.push(0);
        due("of a stack of one", x.holds(), 255);
        x.discard();
        due("of an emptied stack", x.holds(), NONE);
    }

    private static void holdsNowhereAndEverywhere() {
        test("holds: The set of the states at which the top holds");
        FairRuns x = stackOf(1);
        due("nowhere", x.holds(), 0);
        x.one(NOT);
        due("everywhere", x.holds(), 255);
        x.push(0);
        due("two of it", x.two(AND), 1);
        due("nowhere", x.holds(), 0);
    }

    private static void holdsAsOfNow() {
        test("holds: (with arcs, marks and demands as they are now)");
        FairRuns x = oneState(1);
        x.push(0);
        x.one(SOME_ALWAYS);
        due("at first", x.holds(), 1);
        x.demand(2);
        due("with a demand", x.holds(), 0);
        x.undemand();
        due("without it", x.holds(), 1);
        x.arcs(0, 0);
        due("without an arc", x.holds(), 0);
        x.arcs(0, 1);
        due("with it", x.holds(), 1);
        x.mark(0, 0);
        due("without the mark", x.holds(), 0);
        x.mark(0, 255);
        due("with it", x.holds(), 1);
    }

    // Promise 12

    private static void alikeFewerThanTwo() {
        test("alike: false if there are fewer than two");
        due("none", new FairRuns().alike(), false);
        due("one", stackOf(1).alike(), false);
        due("two", stackOf(2).alike(), true);
        FairRuns x = stackOf(2);
        x.two(AND);
        due("one left of two alike", x.alike(), false);
        FairRuns y = stackOf(6);
        y.discard();
        due("none left of six alike", y.alike(), false);
        y.push(0);
        due("one after discard", y.alike(), false);
    }

    private static void alikeOfTwo() {
        test("alike: Whether the two topmost hold at the same states");
        for (int n = 2; n <= 6; n++) {
            FairRuns x = stackOf(n - 1);
            x.push(1);
            due("both nowhere", x.alike(), true);
            for (int s = 0; s < 8; s++) {
                x.mark(1, 1 << s);
                due("not alike at " + s, x.alike(), false);
            }
            x.mark(0, 255);
            x.mark(1, 255);
            due("both everywhere", x.alike(), true);
        }
        FairRuns x = new FairRuns();
        x.mark(1, 1);
        x.push(0);
        x.push(0);
        x.push(1);
        due("the two below do not count", x.alike(), false);
        x.push(1);
        due("the two below do not count", x.alike(), true);
    }

    // Promise 13

    private static void fairNowhereAndEverywhere() {
        test("fair: The set of the states from which a fair run begins");
        FairRuns x = line(8);
        due("a line", x.fair(), 0);
        x.arcs(7, 1);
        due("a circle of all", x.fair(), 255);
        for (int s = 0; s < 8; s++) {
            x.demand(1 << s);
            due("each state is met", x.fair(), 255);
            x.undemand();
        }
        x.arcs(7, 128);
        x.demand(64);
        due("a circle that does not meet it", x.fair(), 0);
        x.arcs(7, 64);
        due("a circle of two", x.fair(), 255);
        x.arcs(0, 0);
        due("a state from which no arc leads", x.fair(), 254);
    }

    // Promise 14

    private static void reachOutOfRange() {
        test("reach: BAD_ARG if s is not 0 to 7");
        dueOutside("reach", 7, BAD_ARG, FairRuns::new, (x, s) -> x.reach(s));
        dueOutside("reach", 7, BAD_ARG, () -> line(8), (x, s) -> x.reach(s));
        due("least", line(8).reach(0), 255);
        due("greatest", line(8).reach(7), 128);
    }

    private static void reachOfAnyKind() {
        test("reach: in some run of any kind, endless or not, that begins at s: s");
        for (int s = 0; s < 8; s++) {
            FairRuns x = new FairRuns();
            due("no arc", x.reach(s), 1 << s);
            x.arcs(s, 1 << s);
            due("an arc to itself", x.reach(s), 1 << s);
            x.demand(0);
            x.arcs(s, 1 << (7 - s));
            due("a run that ends, no run being fair", x.reach(s), 1 << s | 1 << (7 - s));
        }
    }

    private static void reachOfTheWholeMachine() {
        test("reach: those to which an arc leads from it, and so on");
        for (int s = 0; s < 8; s++) {
            due("a line", line(8).reach(s), 256 - (1 << s));
            FairRuns x = line(8);
            x.arcs(7, 1);
            due("a circle of all", x.reach(s), 255);
        }
    }

    // Promise 15

    private static void stepsOutOfRangeFirst() {
        test("steps: BAD_ARG if s is not 0 to 7, tested first");
        dueOutside("steps", 7, BAD_ARG, FairRuns::new, (x, s) -> x.steps(s));
        dueOutside("steps", 7, BAD_ARG, () -> stackOf(1), (x, s) -> x.steps(s));
        dueOutside("steps", 7, BAD_ARG, () -> made(1, 2), (x, s) -> x.steps(s));
    }

    private static void stepsEmptyStack() {
        test("steps: NONE if the stack is empty");
        FairRuns x = oneState(255);
        for (int s = 0; s < 8; s++) {
            due("a new stack", x.steps(s), NONE);
            x.push(0);
            due("a stack of one", x.steps(s), 0);
            x.discard();
            due("an emptied stack", x.steps(s), NONE);
        }
    }

    private static void stepsNoSuchWay() {
        test("steps: NONE if there is no such way");
        FairRuns x = line(8);
        x.push(0);
        for (int s = 0; s < 8; s++) {
            due("it holds nowhere", x.steps(s), NONE);
        }
        for (int goal = 0; goal < 8; goal++) {
            x.mark(0, 1 << goal);
            for (int s = 0; s < 8; s++) {
                due("from " + s + " to " + goal, x.steps(s), s <= goal ? goal - s : NONE);
            }
        }
    }

    private static void stepsZeroAtOnce() {
        test("steps: 0 if it holds at s");
        for (int s = 0; s < 8; s++) {
            FairRuns x = stackOf(1);
            x.mark(0, 1 << s);
            due("without any arc", x.steps(s), 0);
            x.arcs(s, 255);
            x.demand(0);
            due("with arcs, no run being fair", x.steps(s), 0);
        }
    }

    private static void stepsSeven() {
        test("steps: The least number of arcs that lead one after the other from s");
        FairRuns x = line(8);
        x.mark(0, 128);
        x.push(0);
        due("the longest way there is", x.steps(0), 7);
        x.arcs(7, 1);
        x.mark(0, 1);
        due("the way round a circle of all", x.steps(1), 7);
        x.arcs(1, 4 + 128);
        due("a shorter way", x.steps(1), 2);
        x.arcs(1, 1);
        due("the shortest", x.steps(1), 1);
    }

    // Promises 16 and 17

    private static void knotsOfOneState() {
        test("knots: from each state of the set to each (itself too) one or more arcs lead");
        for (int s = 0; s < 8; s++) {
            FairRuns x = new FairRuns();
            due("a state without an arc", x.knots(), 0);
            x.arcs(s, 255 - (1 << s));
            due("a state with arcs to all others", x.knots(), 0);
            x.arcs(s, 1 << s);
            due("a state with an arc to itself", x.knots(), 1);
        }
    }

    private static void knotsWithinTheSet() {
        test("knots: one or more arcs lead one after the other within the set");
        FairRuns x = line(8);
        due("a line", x.knots(), 0);
        x.arcs(7, 1);
        due("a circle of all", x.knots(), 1);
        x.arcs(7, 128);
        due("a line into a circle", x.knots(), 1);
        x.arcs(0, 3);
        due("a line from a circle into a circle", x.knots(), 2);
        x.demand(0);
        due("demands do not count", x.knots(), 2);
    }

    private static void knotsAreGreatest() {
        test("knots: greatest sets");
        FairRuns x = new FairRuns();
        for (int s = 0; s < 8; s++) {
            x.arcs(s, 255);
        }
        due("all arcs", x.knots(), 1);
        // Two circles, 0 1 2 3 and 3 4 5 6 7, have the state 3 in common.
        for (int s = 0; s < 8; s++) {
            x.arcs(s, 2 << s & 255);
        }
        x.arcs(3, 1 + 16);
        x.arcs(7, 8);
        due("two circles with a state in common", x.knots(), 1);
        x.arcs(3, 1 + 8);
        due("the one of them, and states that lead to it", x.knots(), 1);
        x.arcs(7, 16);
        due("two circles apart", x.knots(), 2);
    }

    private static void knotsEightAtMost() {
        test("knots: How many sets of states there are");
        FairRuns x = new FairRuns();
        for (int s = 0; s < 8; s++) {
            x.arcs(s, 1 << s);
            due("with " + (s + 1), x.knots(), s + 1);
        }
        for (int s = 0; s < 8; s++) {
            x.arcs(s, 256 - (1 << s));
        }
        due("eight, and arcs from each to those above", x.knots(), 8);
        for (int s = 0; s < 8; s++) {
            x.arcs(s, (2 << s) - 1);
        }
        due("eight, and arcs from each to those below", x.knots(), 8);
        x.arcs(0, 128);
        due("the first and the last joined", x.knots(), 1);
    }

    private static void knotsEmptySetDoesNotCount() {
        test("knots: the empty set does not count, also if there is no other");
        due("no other", new FairRuns().knots(), 0);
        due("no other, with arcs", line(8).knots(), 0);
        due("one other", oneState(0).knots(), 1);
    }
}
