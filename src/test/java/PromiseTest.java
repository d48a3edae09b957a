/** Runs of calls for each promise of the document, with the answers worked out by hand. */
public final class PromiseTest {
    private static final int BAD_ARG = -1;
    private static final int FULL = -2;
    private static final int TOO_FEW = -3;
    private static final int NONE = -4;
    private static final int[] NO_STATES = {-1, 8, 9, 32, 64, Integer.MIN_VALUE, Integer.MAX_VALUE};
    private static final int[] NO_SETS = {-1, 256, 257, 511, Integer.MIN_VALUE, Integer.MAX_VALUE};
    private static final int[] NO_MARKS = {-1, 4, 5, 32, Integer.MIN_VALUE, Integer.MAX_VALUE};

    private static int wrong = 0;

    private static void due(String call, int got, int want) {
        if (got != want) {
            wrong++;
            System.out.println(call + " answered " + got + ", due is " + want);
        }
    }

    private static void due(String call, boolean got, boolean want) {
        due(call, got ? 1 : 0, want ? 1 : 0);
    }

    public static void main(String[] args) {
        constants();
        newObject();
        objectsAreApart();
        arcs();
        mark();
        demand();
        undemand();
        push();
        pushLimits();
        one();
        oneOrderOfTests();
        two();
        twoOrderOfTests();
        discard();
        depth();
        holdsIsOfNow();
        someAndAllOfOneMachine();
        demandsRuleRuns();
        until();
        untilNeedsFairRuns();
        alike();
        fair();
        reach();
        steps();
        knots();
        longUse();
        System.out.println(wrong == 0 ? "all answers are as due" : wrong + " answers are not as due");
        if (wrong != 0) {
            System.exit(1);
        }
    }

    private static void constants() {
        due("BAD_ARG", FairRuns.BAD_ARG, BAD_ARG);
        due("FULL", FairRuns.FULL, FULL);
        due("TOO_FEW", FairRuns.TOO_FEW, TOO_FEW);
        due("NONE", FairRuns.NONE, NONE);
    }

    // Promise 1
    private static void newObject() {
        FairRuns x = new FairRuns();
        due("1: depth", x.depth(), 0);
        due("1: holds", x.holds(), NONE);
        due("1: alike", x.alike(), false);
        due("1: undemand", x.undemand(), NONE);
        due("1: fair", x.fair(), 0);
        due("1: knots", x.knots(), 0);
        for (int s = 0; s < 8; s++) {
            due("1: reach " + s, x.reach(s), 1 << s);
            due("1: steps " + s, x.steps(s), NONE);
            due("1: arcs " + s, x.arcs(s, 0), 0);
        }
        for (int k = 0; k < 4; k++) {
            due("1: mark " + k, x.mark(k, 0), 0);
        }
    }

    private static void objectsAreApart() {
        FairRuns x = new FairRuns();
        x.arcs(0, 1);
        x.mark(0, 1);
        x.demand(1);
        x.push(0);
        FairRuns y = new FairRuns();
        due("1: fair of another", y.fair(), 0);
        due("1: mark of another", y.mark(0, 0), 0);
        due("1: undemand of another", y.undemand(), NONE);
        due("1: depth of another", y.depth(), 0);
        due("1: fair", x.fair(), 1);
        due("1: holds", x.holds(), 1);
    }

    // Promise 2
    private static void arcs() {
        FairRuns x = new FairRuns();
        for (int s = 0; s < 8; s++) {
            due("2: first", x.arcs(s, 255 - s), 0);
        }
        for (int s = 0; s < 8; s++) {
            due("2: second", x.arcs(s, 0), 255 - s);
        }
        due("2: exactly the set", x.arcs(0, 6), 0);
        due("2: exactly the set", x.arcs(0, 8), 6);
        due("2: no arc of before is left", x.reach(0), 9);
        for (int s : NO_STATES) {
            due("2: state " + s, x.arcs(s, 1), BAD_ARG);
        }
        for (int set : NO_SETS) {
            due("2: set " + set, x.arcs(0, set), BAD_ARG);
        }
        due("2: both wrong", x.arcs(8, 256), BAD_ARG);
        due("2: refused changes nothing", x.arcs(0, 255), 8);
        due("2: greatest set", x.arcs(0, 0), 255);
        for (int s = 1; s < 8; s++) {
            due("2: others unchanged", x.arcs(s, 0), 0);
        }
    }

    // Promise 3
    private static void mark() {
        FairRuns x = new FairRuns();
        for (int k = 0; k < 4; k++) {
            due("3: first", x.mark(k, 255 - k), 0);
        }
        for (int k : NO_MARKS) {
            due("3: mark " + k, x.mark(k, 1), BAD_ARG);
        }
        for (int set : NO_SETS) {
            due("3: set " + set, x.mark(0, set), BAD_ARG);
        }
        due("3: both wrong", x.mark(4, 256), BAD_ARG);
        for (int k = 0; k < 4; k++) {
            due("3: second", x.mark(k, k), 255 - k);
            x.push(k);
            due("3: the mark's set", x.holds(), k);
        }
    }

    // Promise 4
    private static void demand() {
        FairRuns x = new FairRuns();
        for (int set : NO_SETS) {
            due("4: set " + set, x.demand(set), BAD_ARG);
        }
        due("4: refused changes nothing", x.undemand(), NONE);
        due("4: first", x.demand(255), 1);
        due("4: second", x.demand(0), 2);
        due("4: third", x.demand(255), 3);
        due("4: fourth", x.demand(1), FULL);
        due("4: BAD_ARG comes first", x.demand(256), BAD_ARG);
        due("4: BAD_ARG comes first", x.demand(-1), BAD_ARG);
        due("4: last", x.undemand(), 255);
        due("4: room again", x.demand(7), 3);
        due("4: last", x.undemand(), 7);
        due("4: same set twice counts", x.demand(0), 3);
    }

    // Promise 5
    private static void undemand() {
        FairRuns x = new FairRuns();
        due("5: none", x.undemand(), NONE);
        x.arcs(0, 1);
        x.arcs(1, 2);
        x.demand(3);
        x.demand(1);
        x.demand(0);
        due("5: fair", x.fair(), 0);
        due("5: last first", x.undemand(), 0);
        due("5: fair", x.fair(), 1);
        due("5: then", x.undemand(), 1);
        due("5: fair", x.fair(), 3);
        due("5: then", x.undemand(), 3);
        due("5: none", x.undemand(), NONE);
        due("5: refused changes nothing", x.demand(2), 1);
        due("5: fair", x.fair(), 2);
    }

    // Promise 6
    private static void push() {
        FairRuns x = new FairRuns();
        for (int k : NO_MARKS) {
            due("6: mark " + k, x.push(k), BAD_ARG);
        }
        due("6: refused changes nothing", x.depth(), 0);
        for (int k = 0; k < 4; k++) {
            x.mark(k, 16 + k);
            due("6: number", x.push(k), k + 1);
            due("6: the top", x.holds(), 16 + k);
        }
        due("6: again", x.push(3), 5);
        due("6: alike", x.alike(), true);
        due("6: again", x.push(0), 6);
        due("6: a seventh", x.push(0), FULL);
        due("6: BAD_ARG comes first", x.push(4), BAD_ARG);
        due("6: depth", x.depth(), 6);
        due("6: top", x.holds(), 16);
    }

    private static void pushLimits() {
        FairRuns x = new FairRuns();
        x.push(0);
        for (int i = 0; i < 30; i++) {
            x.push(9);
            x.one(9);
            x.two(9);
            x.two(0);
        }
        // Refused calls make no formula, so 19 more can be made.
        for (int i = 0; i < 18; i++) {
            due("6: one", x.one(0), 1);
        }
        due("6: the twentieth", x.push(1), 2);
        due("6: the twenty-first", x.push(1), FULL);
        due("6: BAD_ARG comes first", x.push(-1), BAD_ARG);
        due("6: depth", x.depth(), 2);
    }

    // Promise 7
    private static void one() {
        // 0 -> 0, 1; 1 -> 2; 2 -> 2; 3 -> 1, and from 4 to 7 no arc leads.
        int[] want = {251, 6, 15, 4, 246, 254, 244};
        for (int op = 0; op <= 6; op++) {
            FairRuns x = new FairRuns();
            x.arcs(0, 3);
            x.arcs(1, 4);
            x.arcs(2, 4);
            x.arcs(3, 2);
            x.mark(0, 4);
            x.mark(1, 1);
            x.push(1);
            x.push(0);
            due("7: number", x.one(op), 2);
            due("7: op " + op, x.holds(), want[op]);
            x.two(1);
            due("7: below is untouched", x.holds(), want[op] | 1);
        }
    }

    private static void oneOrderOfTests() {
        FairRuns x = new FairRuns();
        int[] noOps = {-1, 7, 8, Integer.MIN_VALUE, Integer.MAX_VALUE};
        for (int op : noOps) {
            due("7: BAD_ARG comes before TOO_FEW", x.one(op), BAD_ARG);
        }
        for (int op = 0; op <= 6; op++) {
            due("7: empty stack", x.one(op), TOO_FEW);
        }
        x.mark(0, 5);
        for (int i = 0; i < 6; i++) {
            x.push(0);
        }
        due("7: a full stack", x.one(0), 6);
        due("7: not", x.holds(), 250);
        for (int i = 0; i < 13; i++) {
            due("7: until 20 are made", x.one(0), 6);
        }
        due("7: fourteen nots", x.holds(), 5);
        for (int op : noOps) {
            due("7: BAD_ARG comes before FULL", x.one(op), BAD_ARG);
        }
        due("7: 20 made", x.one(0), FULL);
        due("7: refused changes nothing", x.holds(), 5);
        due("7: refused changes nothing", x.depth(), 6);
    }

    // Promise 8
    private static void two() {
        // 0 -> 1; 1 -> 2; 2 -> 2; 3 -> 0, 3; 4 -> 5; 5 -> 4; from 6 and 7 no arc leads.
        int[] want = {8, 79, 7, 199};
        for (int op = 0; op <= 3; op++) {
            FairRuns x = new FairRuns();
            x.arcs(0, 2);
            x.arcs(1, 4);
            x.arcs(2, 4);
            x.arcs(3, 9);
            x.arcs(4, 32);
            x.arcs(5, 16);
            x.mark(0, 11);
            x.mark(1, 76);
            x.push(3);
            x.push(0);
            x.push(1);
            if (op >= 2) {
                x.mark(1, 4);
                x.mark(0, 3);
            }
            due("8: number", x.two(op), 2);
            due("8: op " + op, x.holds(), want[op]);
            due("8: below", x.two(0), 1);
            due("8: below is mark 3", x.holds(), 0);
        }
    }

    private static void twoOrderOfTests() {
        FairRuns x = new FairRuns();
        int[] noOps = {-1, 4, 5, Integer.MIN_VALUE, Integer.MAX_VALUE};
        for (int round = 0; round < 2; round++) {
            for (int op : noOps) {
                due("8: BAD_ARG comes before TOO_FEW", x.two(op), BAD_ARG);
            }
            for (int op = 0; op <= 3; op++) {
                due("8: fewer than two", x.two(op), TOO_FEW);
            }
            due("8: refused changes nothing", x.depth(), round);
            x.push(round);
        }
        x.mark(1, 9);
        for (int i = 0; i < 18; i++) {
            x.one(0);
        }
        for (int op : noOps) {
            due("8: BAD_ARG comes before FULL", x.two(op), BAD_ARG);
        }
        for (int op = 0; op <= 3; op++) {
            due("8: 20 made", x.two(op), FULL);
        }
        due("8: refused changes nothing", x.depth(), 2);
        due("8: refused changes nothing", x.holds(), 9);
        theTwentiethByTwo();
        tooFewComesBeforeFull();
    }

    private static void theTwentiethByTwo() {
        FairRuns x = new FairRuns();
        x.mark(0, 6);
        x.push(0);
        x.push(0);
        for (int i = 0; i < 17; i++) {
            x.one(0);
        }
        due("8: the twentieth", x.two(1), 1);
        due("8: the twentieth", x.holds(), 255);
        due("8: the twenty-first", x.push(0), FULL);
    }

    private static void tooFewComesBeforeFull() {
        FairRuns x = new FairRuns();
        x.push(0);
        for (int i = 0; i < 19; i++) {
            x.one(0);
        }
        due("8: TOO_FEW comes before FULL", x.two(0), TOO_FEW);
        due("8: TOO_FEW comes before FULL", x.two(3), TOO_FEW);
        due("7: FULL", x.one(3), FULL);
    }

    // Promise 9
    private static void discard() {
        FairRuns x = new FairRuns();
        x.discard();
        due("9: of an empty stack", x.depth(), 0);
        x.arcs(0, 3);
        x.mark(0, 5);
        x.demand(1);
        for (int round = 0; round < 3; round++) {
            due("9: push", x.push(0), 1);
            due("9: holds", x.holds(), 5);
            for (int i = 0; i < 19; i++) {
                due("9: one", x.one(0), 1);
            }
            due("9: full", x.one(0), FULL);
            due("9: full", x.push(0), FULL);
            x.discard();
            due("9: depth", x.depth(), 0);
            due("9: holds", x.holds(), NONE);
            due("9: too few", x.one(0), TOO_FEW);
            due("9: too few", x.two(0), TOO_FEW);
        }
        due("9: all else stays", x.fair(), 1);
        due("9: all else stays", x.arcs(0, 0), 3);
        due("9: all else stays", x.mark(0, 0), 5);
        due("9: all else stays", x.undemand(), 1);
    }

    // Promise 10
    private static void depth() {
        FairRuns x = new FairRuns();
        for (int i = 0; i < 6; i++) {
            due("10: depth", x.depth(), i);
            x.push(0);
        }
        x.one(1);
        due("10: one keeps it", x.depth(), 6);
        for (int i = 5; i >= 1; i--) {
            x.two(i & 3);
            due("10: two lessens it", x.depth(), i);
        }
        x.holds();
        x.alike();
        x.steps(0);
        due("10: asking keeps it", x.depth(), 1);
        x.discard();
        due("10: discard", x.depth(), 0);
    }

    // Promise 11
    private static void holdsIsOfNow() {
        FairRuns x = new FairRuns();
        x.push(0);
        x.one(2);
        due("11: nothing", x.holds(), 0);
        x.mark(0, 8);
        due("11: no run", x.holds(), 0);
        x.arcs(0, 4);
        x.arcs(2, 8);
        due("11: no endless run", x.holds(), 0);
        x.arcs(3, 8);
        due("11: by arcs of now", x.holds(), 13);
        x.mark(0, 4);
        due("11: by marks of now", x.holds(), 5);
        x.demand(4);
        due("11: by demands of now", x.holds(), 0);
        x.arcs(3, 4);
        due("11: by arcs of now", x.holds(), 13);
        x.undemand();
        x.arcs(3, 0);
        due("11: by arcs of now", x.holds(), 0);
    }

    private static void someAndAllOfOneMachine() {
        // 0 -> 1, 4; 1 -> 0; 4 -> 5, where the way ends: no run goes to 4 or 5.
        int[] marks = {1, 2, 16, 32};
        int[][] want = {
            // not, some-next, some-ever, some-always, all-next, all-ever, all-always
            {254, 2, 3, 0, 254, 255, 252},
            {253, 1, 3, 0, 253, 255, 252},
            {239, 0, 0, 0, 252, 252, 252},
            {223, 0, 0, 0, 252, 252, 252},
        };
        FairRuns x = new FairRuns();
        x.arcs(0, 18);
        x.arcs(1, 1);
        x.arcs(4, 32);
        for (int k = 0; k < 4; k++) {
            x.mark(k, marks[k]);
            for (int op = 0; op <= 6; op++) {
                x.discard();
                x.push(k);
                x.one(op);
                due("11: mark " + k + " op " + op, x.holds(), want[k][op]);
            }
        }
    }

    private static void demandsRuleRuns() {
        // Two states that go to both: one demand each, together, and none at all.
        FairRuns x = new FairRuns();
        x.arcs(0, 3);
        x.arcs(1, 3);
        x.mark(0, 1);
        x.push(0);
        x.one(3);
        due("11: some-always without demand", x.holds(), 1);
        x.demand(1);
        due("11: some-always with a demand that is met", x.holds(), 1);
        x.demand(2);
        due("11: some-always with a demand that is not met", x.holds(), 0);
        x.one(0);
        x.discard();
        x.push(0);
        x.one(5);
        due("11: all-ever by demand", x.holds(), 255);
        x.one(6);
        due("11: all-always of it", x.holds(), 255);
        x.undemand();
        x.undemand();
        due("11: all-always of it without demand", x.holds(), 252);
        demandsOnTheWay();
    }

    private static void demandsOnTheWay() {
        // 0 -> 1 -> 2 -> 2: a demand that is met only on the way isn't met endlessly often.
        FairRuns x = new FairRuns();
        x.arcs(0, 2);
        x.arcs(1, 4);
        x.arcs(2, 4);
        x.demand(2);
        due("11: met once", x.fair(), 0);
        x.undemand();
        x.demand(4);
        due("11: met endlessly often", x.fair(), 7);
        x.demand(6);
        x.demand(7);
        due("11: three demands met", x.fair(), 7);
        x.undemand();
        x.demand(3);
        due("11: the third not met", x.fair(), 0);
        demandsOutsideTheFormula();
    }

    private static void demandsOutsideTheFormula() {
        // 0 -> 0, 1; 1 -> 2; 2 -> 2, 3; 3 -> 0: from 0 to 2 and back only by 1 and 3.
        FairRuns x = new FairRuns();
        x.arcs(0, 3);
        x.arcs(1, 4);
        x.arcs(2, 12);
        x.arcs(3, 1);
        x.mark(0, 5);
        x.push(0);
        x.one(3);
        x.demand(1);
        due("11: some-always meets one demand", x.holds(), 1);
        x.demand(4);
        due("11: both demands are met", x.fair(), 15);
        due("11: but not without leaving F", x.holds(), 0);
    }

    private static void until() {
        // 0 -> 1 -> 2 -> 3 -> 3, and 4 -> 4, 3.
        FairRuns x = new FairRuns();
        x.arcs(0, 2);
        x.arcs(1, 4);
        x.arcs(2, 8);
        x.arcs(3, 8);
        x.arcs(4, 24);
        x.mark(0, 19);
        x.mark(1, 12);
        untilBoth(x, "F to the first G", 31, 239);
        x.mark(0, 16);
        untilBoth(x, "F missing on the way", 28, 236);
        x.mark(0, 0);
        untilBoth(x, "G at once needs no F", 12, 236);
        x.mark(0, 255);
        x.mark(1, 0);
        untilBoth(x, "G never", 0, 224);
        x.mark(0, 1);
        x.mark(1, 10);
        untilBoth(x, "after the first G nothing is asked", 11, 235);
    }

    private static void untilBoth(FairRuns x, String what, int some, int all) {
        x.discard();
        x.push(0);
        x.push(1);
        x.two(2);
        due("11: some until: " + what, x.holds(), some);
        x.discard();
        x.push(0);
        x.push(1);
        x.two(3);
        due("11: all until: " + what, x.holds(), all);
    }

    private static void untilNeedsFairRuns() {
        // 0 -> 1, 2; 1 -> 1; 2 -> 2; 3 -> 3, 0.
        FairRuns x = new FairRuns();
        x.arcs(0, 6);
        x.arcs(1, 2);
        x.arcs(2, 4);
        x.arcs(3, 9);
        x.mark(0, 9);
        x.mark(1, 2);
        untilBoth(x, "no demand", 11, 242);
        x.demand(6);
        untilBoth(x, "3 is left, but 2 is free", 11, 242);
        x.demand(2);
        untilBoth(x, "1 in the end", 11, 255);
        x.undemand();
        x.demand(4);
        untilBoth(x, "2 in the end", 0, 242);
        x.demand(0);
        untilBoth(x, "no fair run", 0, 255);
    }

    // Promise 12
    private static void alike() {
        FairRuns x = new FairRuns();
        due("12: none", x.alike(), false);
        x.push(0);
        due("12: one", x.alike(), false);
        x.push(1);
        due("12: two empty sets", x.alike(), true);
        x.mark(1, 3);
        due("12: by marks of now", x.alike(), false);
        x.mark(0, 3);
        due("12: the same", x.alike(), true);
        x.one(0);
        due("12: not", x.alike(), false);
        x.one(0);
        due("12: not not", x.alike(), true);
        x.push(2);
        due("12: the two topmost", x.alike(), false);
        x.push(2);
        due("12: the two topmost", x.alike(), true);
        due("12: changes nothing", x.depth(), 4);
        x.discard();
        x.push(0);
        x.one(3);
        x.push(0);
        due("12: by arcs of now", x.alike(), false);
        x.arcs(0, 1);
        x.arcs(1, 2);
        due("12: by arcs of now", x.alike(), true);
        x.demand(1);
        due("12: by demands of now", x.alike(), false);
    }

    // Promise 13
    private static void fair() {
        FairRuns x = new FairRuns();
        for (int s = 0; s < 7; s++) {
            x.arcs(s, 2 << s);
        }
        due("13: a line", x.fair(), 0);
        x.arcs(7, 128);
        due("13: a line that ends in a circle", x.fair(), 255);
        x.demand(127);
        due("13: a demand out of the circle", x.fair(), 0);
        x.undemand();
        x.arcs(7, 1);
        x.demand(1);
        x.demand(8);
        x.demand(128);
        due("13: one great circle", x.fair(), 255);
        x.arcs(3, 24);
        x.arcs(7, 0);
        due("13: demands of different places", x.fair(), 0);
        x.undemand();
        due("13: one of them before the circle", x.fair(), 0);
        x.undemand();
        x.undemand();
        x.demand(8);
        due("13: from those that lead to it", x.fair(), 15);
        x.demand(0);
        due("13: an empty demand", x.fair(), 0);
    }

    // Promise 14
    private static void reach() {
        FairRuns x = new FairRuns();
        for (int s = 0; s < 7; s++) {
            x.arcs(s, 2 << s);
        }
        for (int s = 0; s < 8; s++) {
            due("14: a line from " + s, x.reach(s), 256 - (1 << s));
        }
        x.arcs(7, 16);
        for (int s = 4; s < 8; s++) {
            due("14: a circle from " + s, x.reach(s), 240);
        }
        x.demand(0);
        due("14: not only fair runs", x.reach(0), 255);
        for (int s : NO_STATES) {
            due("14: state " + s, x.reach(s), BAD_ARG);
        }
        backwardLine();
    }

    private static void backwardLine() {
        FairRuns x = new FairRuns();
        for (int s = 1; s < 8; s++) {
            x.arcs(s, 1 << (s - 1));
        }
        for (int s = 0; s < 8; s++) {
            due("14: a line back from " + s, x.reach(s), (2 << s) - 1);
        }
        x.mark(0, 1);
        x.push(0);
        for (int s = 0; s < 8; s++) {
            due("15: a line back from " + s, x.steps(s), s);
        }
    }

    // Promise 15
    private static void steps() {
        FairRuns x = new FairRuns();
        for (int s : NO_STATES) {
            due("15: BAD_ARG comes first", x.steps(s), BAD_ARG);
        }
        due("15: empty stack", x.steps(0), NONE);
        x.push(0);
        due("15: nowhere", x.steps(0), NONE);
        for (int s = 0; s < 7; s++) {
            x.arcs(s, 2 << s);
        }
        x.mark(0, 128);
        for (int s = 0; s < 8; s++) {
            due("15: from " + s, x.steps(s), 7 - s);
        }
        x.demand(0);
        due("15: a way need not be fair", x.steps(0), 7);
        x.mark(0, 144);
        due("15: the nearest", x.steps(0), 4);
        due("15: past it", x.steps(5), 2);
        x.arcs(0, 66);
        due("15: the shortest way", x.steps(0), 2);
        x.mark(0, 1);
        due("15: at once", x.steps(0), 0);
        due("15: no way back", x.steps(1), NONE);
        x.one(0);
        due("15: of the top", x.steps(0), 1);
        x.push(1);
        due("15: of the top alone", x.steps(0), NONE);
        for (int s : NO_STATES) {
            due("15: state " + s, x.steps(s), BAD_ARG);
        }
        due("15: changes nothing", x.depth(), 2);
    }

    // Promises 16 and 17
    private static void knots() {
        FairRuns x = new FairRuns();
        due("17: no arc, no knot", x.knots(), 0);
        for (int s = 0; s < 7; s++) {
            x.arcs(s, 255 & (510 << s));
        }
        due("17: arcs but no circle", x.knots(), 0);
        x.arcs(7, 128);
        due("16: one state with an arc to itself", x.knots(), 1);
        x.arcs(7, 1);
        due("16: all in one", x.knots(), 1);
        for (int s = 0; s < 8; s++) {
            x.arcs(s, 1 << s);
            x.demand(0);
        }
        due("16: eight", x.knots(), 8);
        for (int s = 0; s < 8; s++) {
            x.arcs(s, 1 << (s ^ 1));
        }
        due("16: four pairs", x.knots(), 4);
        for (int s = 0; s < 8; s++) {
            x.arcs(s, 1 << (7 - s));
        }
        due("16: four pairs, crossed", x.knots(), 4);
        x.arcs(7, 3);
        due("16: a knot that leads to another", x.knots(), 4);
        x.arcs(6, 130);
        due("16: two become one", x.knots(), 3);
        x.arcs(7, 1);
        x.arcs(6, 0);
        x.arcs(1, 1);
        due("16: states of no knot between", x.knots(), 3);
        for (int s = 0; s < 8; s++) {
            x.arcs(s, 255);
        }
        due("16: all arcs", x.knots(), 1);
    }

    /** 512 calls are allowed, and nothing may run over on the way. */
    private static void longUse() {
        FairRuns x = new FairRuns();
        for (int i = 0; i < 24; i++) {
            due("long use: push", x.push(0), 1);
            for (int j = 0; j < 19; j++) {
                due("long use: one", x.one(j % 7), 1);
            }
            x.discard();
        }
        for (int i = 0; i < 4; i++) {
            due("long use: demand", x.demand(i), i < 3 ? i + 1 : FULL);
        }
        due("long use: undemand", x.undemand(), 2);
    }
}
