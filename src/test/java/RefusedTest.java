/**
 * "A refused call answers the code named and changes nothing." Two objects get the same calls; then
 * the one gets every kind of refused call, and of asking, between; then both must answer alike for
 * all that can be asked of them. This is done in many states, made by a fixed rule, among them the
 * empty and the full ones.
 */
public final class RefusedTest {
    private static final int BAD_ARG = -1;
    private static final int FULL = -2;
    private static final int TOO_FEW = -3;
    private static final int NONE = -4;
    private static final int CASES = 4000;
    private static final int[] WRONG = {-1, 256, -256, 65536, Integer.MIN_VALUE, Integer.MAX_VALUE};

    private static int wrong = 0;
    private static int seen = 0;
    private static long seed = 512L;

    private final int number;
    private final FairRuns plain = new FairRuns();
    private final FairRuns disturbed = new FairRuns();
    private int demands = 0;
    private int size = 0;
    private int made = 0;

    private RefusedTest(int number) {
        this.number = number;
    }

    public static void main(String[] args) {
        for (int i = 0; i < CASES; i++) {
            RefusedTest test = new RefusedTest(i);
            test.build();
            test.refuse();
            test.compare();
        }
        // Without these the test could pass by never coming to a full state.
        for (int kind = 0; kind < 7; kind++) {
            if ((seen & 1 << kind) == 0) {
                wrong++;
                System.out.println("no case of kind " + kind + " came");
            }
        }
        System.out.println(wrong == 0 ? "refused calls change nothing" : wrong + " answers are not as due");
        if (wrong != 0) {
            System.exit(1);
        }
    }

    /** A fixed rule that gives the same numbers each time; from 0 to below the bound. */
    private static int pick(int bound) {
        seed = seed * 6364136223846793005L + 1442695040888963407L;
        return (int) ((seed >>> 33) % bound);
    }

    private void due(String call, int got, int want) {
        if (got != want) {
            wrong++;
            if (wrong <= 20) {
                System.out.println("case " + number + ": " + call + " answered " + got + ", due is " + want);
            }
        }
    }

    private void build() {
        int calls = pick(60);
        for (int i = 0; i < calls; i++) {
            buildOne(pick(12));
        }
        fillUp(number % 4);
    }

    private void buildOne(int kind) {
        if (kind < 2) {
            arcs(pick(8), pick(256) & pick(256));
        } else if (kind == 2) {
            mark(pick(4), pick(256));
        } else if (kind == 3 && demands < 3) {
            demand(pick(256));
        } else if (kind == 4 && demands > 0 && pick(3) == 0) {
            due("undemand", plain.undemand(), disturbed.undemand());
            demands--;
        } else if (kind < 8 && size < 6 && made < 20) {
            push(pick(4));
        } else if (kind < 10 && size > 0 && made < 20) {
            one(pick(7));
        } else if (kind == 10 && size > 1 && made < 20) {
            two(pick(4));
        } else if (kind == 11 && pick(12) == 0) {
            plain.discard();
            disturbed.discard();
            size = 0;
            made = 0;
        }
    }

    /** One case in four is left as it is; the others come to a limit of the stack or of formulas. */
    private void fillUp(int how) {
        for (int i = 0; i < 6 && (how & 1) != 0; i++) {
            if (size < 6 && made < 20) {
                push(pick(4));
            }
        }
        for (int i = 0; i < 20 && (how & 2) != 0; i++) {
            if (size > 0 && made < 20) {
                one(pick(7));
            }
        }
    }

    private void arcs(int s, int to) {
        due("arcs", disturbed.arcs(s, to), plain.arcs(s, to));
    }

    private void mark(int k, int set) {
        due("mark", disturbed.mark(k, set), plain.mark(k, set));
    }

    private void demand(int set) {
        demands++;
        due("demand", disturbed.demand(set), demands);
        due("demand", plain.demand(set), demands);
    }

    private void push(int k) {
        size++;
        made++;
        due("push", disturbed.push(k), size);
        due("push", plain.push(k), size);
    }

    private void one(int op) {
        made++;
        due("one", disturbed.one(op), size);
        due("one", plain.one(op), size);
    }

    private void two(int op) {
        made++;
        size--;
        due("two", disturbed.two(op), size);
        due("two", plain.two(op), size);
    }

    private void refuse() {
        for (int i : WRONG) {
            refuseArguments(i);
        }
        due("arcs(8, 255)", disturbed.arcs(8, 255), BAD_ARG);
        due("mark(4, 255)", disturbed.mark(4, 255), BAD_ARG);
        due("push(4)", disturbed.push(4), BAD_ARG);
        due("one(7)", disturbed.one(7), BAD_ARG);
        due("two(4)", disturbed.two(4), BAD_ARG);
        due("reach(8)", disturbed.reach(8), BAD_ARG);
        due("steps(8)", disturbed.steps(8), BAD_ARG);
        refuseAtLimits();
        ask();
    }

    private void refuseArguments(int i) {
        due("arcs s", disturbed.arcs(i, 255), BAD_ARG);
        due("arcs to", disturbed.arcs(pick(8), i), BAD_ARG);
        due("mark k", disturbed.mark(i, 255), BAD_ARG);
        due("mark set", disturbed.mark(pick(4), i), BAD_ARG);
        due("demand", disturbed.demand(i), BAD_ARG);
        due("push", disturbed.push(i), BAD_ARG);
        due("one", disturbed.one(i), BAD_ARG);
        due("two", disturbed.two(i), BAD_ARG);
        due("reach", disturbed.reach(i), BAD_ARG);
        due("steps", disturbed.steps(i), BAD_ARG);
    }

    private void refuseAtLimits() {
        if (demands == 3) {
            due("demand of a fourth", disturbed.demand(pick(256)), FULL);
            seen |= 1;
        }
        if (demands == 0) {
            due("undemand of none", disturbed.undemand(), NONE);
            seen |= 2;
        }
        if (size == 6 || made == 20) {
            due("push at a limit", disturbed.push(pick(4)), FULL);
            seen |= size < 6 ? 4 : 8;
        }
        if (size == 0 || made == 20) {
            due("one at a limit", disturbed.one(pick(7)), size == 0 ? TOO_FEW : FULL);
            seen |= size == 0 ? 16 : 32;
        }
        if (size < 2 || made == 20) {
            due("two at a limit", disturbed.two(pick(4)), size < 2 ? TOO_FEW : FULL);
            seen |= size == 1 && made == 20 ? 64 : 0;
        }
        if (size == 0) {
            due("holds of none", disturbed.holds(), NONE);
            due("steps of none", disturbed.steps(pick(8)), NONE);
        }
    }

    private void ask() {
        disturbed.holds();
        disturbed.alike();
        disturbed.fair();
        disturbed.knots();
        disturbed.depth();
        disturbed.reach(pick(8));
        disturbed.steps(pick(8));
    }

    private void compare() {
        due("depth", disturbed.depth(), size);
        due("fair", disturbed.fair(), plain.fair());
        due("knots", disturbed.knots(), plain.knots());
        for (int s = 0; s < 8; s++) {
            due("reach", disturbed.reach(s), plain.reach(s));
            due("steps", disturbed.steps(s), plain.steps(s));
        }
        compareTop();
        compareBelow();
        compareRest();
        compareMachine();
    }

    private void compareTop() {
        due("holds", disturbed.holds(), plain.holds());
        due("alike", disturbed.alike() ? 1 : 0, plain.alike() ? 1 : 0);
    }

    /** What lies below the top shows when the formulas are joined, with marks that differ. */
    private void compareBelow() {
        for (int i = 0; i < 6 && size > 1 && made < 20; i++) {
            two(i % 2);
            compareTop();
            mark(pick(4), pick(256));
            compareTop();
        }
    }

    /** How many formulas may still be made must be as before. */
    private void compareRest() {
        for (int i = 0; i < 20 && size > 0 && made < 20; i++) {
            one(pick(7));
            compareTop();
        }
        if (made == 20) {
            due("one when 20 are made", disturbed.one(0), FULL);
            due("one when 20 are made", plain.one(0), FULL);
        } else {
            due("one of none", disturbed.one(0), TOO_FEW);
            due("push", disturbed.push(0), 1);
        }
    }

    private void compareMachine() {
        for (int s = 0; s < 8; s++) {
            arcs(s, 0);
        }
        for (int k = 0; k < 4; k++) {
            mark(k, 0);
        }
        for (int i = 0; i < 4; i++) {
            due("undemand", disturbed.undemand(), plain.undemand());
        }
    }
}
