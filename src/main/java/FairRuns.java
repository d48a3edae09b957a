/**
 * Machines of eight states with fair endless runs, and what is true at which state of all runs or
 * of some run. A set of states is an int whose bit s stands for state s.
 */
public final class FairRuns {
    public static final int BAD_ARG = -1;
    public static final int FULL = -2;
    public static final int TOO_FEW = -3;
    public static final int NONE = -4;

    private static final int STATES = 8;
    private static final int ALL = 255;
    private static final int MARKS = 4;
    private static final int MAX_DEMANDS = 3;
    private static final int MAX_STACK = 6;
    private static final int MAX_FORMULAS = 20;

    private static final int KIND_MARK = 0;
    private static final int KIND_ONE = 1;
    private static final int KIND_TWO = 2;

    private static final int NOT = 0;
    private static final int SOME_NEXT = 1;
    private static final int SOME_EVER = 2;
    private static final int SOME_ALWAYS = 3;
    private static final int ALL_NEXT = 4;
    private static final int ALL_EVER = 5;
    private static final int ALL_ALWAYS = 6;

    private static final int AND = 0;
    private static final int OR = 1;
    private static final int SOME_UNTIL = 2;
    private static final int ALL_UNTIL = 3;

    private final int[] arcsOf = new int[STATES];
    private final int[] marks = new int[MARKS];
    private final int[] demands = new int[MAX_DEMANDS];
    private int demandCount;

    // Arcs, marks and demands may change after a formula is made, so formulas are kept as they
    // were built and worked out anew when asked. A formula's parts always have lower numbers.
    private final int[] kindOf = new int[MAX_FORMULAS];
    private final int[] opOf = new int[MAX_FORMULAS];
    private final int[] leftOf = new int[MAX_FORMULAS];
    private final int[] rightOf = new int[MAX_FORMULAS];
    private final int[] valueOf = new int[MAX_FORMULAS];
    private int made;

    private final int[] stack = new int[MAX_STACK];
    private int size;

    public FairRuns() {
        demandCount = 0;
        made = 0;
        size = 0;
    }

    public int arcs(int s, int to) {
        if (!isState(s) || !isSet(to)) {
            return BAD_ARG;
        }
        int old = arcsOf[s];
        arcsOf[s] = to;
        return old;
    }

    public int mark(int k, int set) {
        if (!isMark(k) || !isSet(set)) {
            return BAD_ARG;
        }
        int old = marks[k];
        marks[k] = set;
        return old;
    }

    public int demand(int set) {
        if (!isSet(set)) {
            return BAD_ARG;
        }
        if (demandCount >= MAX_DEMANDS) {
            return FULL;
        }
        demands[demandCount] = set;
        demandCount++;
        return demandCount;
    }

    public int undemand() {
        if (demandCount < 1) {
            return NONE;
        }
        demandCount--;
        return demands[demandCount];
    }

    public int push(int k) {
        if (!isMark(k)) {
            return BAD_ARG;
        }
        if (size >= MAX_STACK || made >= MAX_FORMULAS) {
            return FULL;
        }
        makeFormula(KIND_MARK, k, 0, 0);
        return size;
    }

    public int one(int op) {
        if (op < NOT || op > ALL_ALWAYS) {
            return BAD_ARG;
        }
        if (size < 1) {
            return TOO_FEW;
        }
        if (made >= MAX_FORMULAS) {
            return FULL;
        }
        size--;
        makeFormula(KIND_ONE, op, stack[size], 0);
        return size;
    }

    public int two(int op) {
        if (op < AND || op > ALL_UNTIL) {
            return BAD_ARG;
        }
        if (size < 2) {
            return TOO_FEW;
        }
        if (made >= MAX_FORMULAS) {
            return FULL;
        }
        size -= 2;
        makeFormula(KIND_TWO, op, stack[size], stack[size + 1]);
        return size;
    }

    public void discard() {
        size = 0;
        made = 0;
    }

    public int depth() {
        return size;
    }

    public int holds() {
        if (size < 1) {
            return NONE;
        }
        workOutFormulas();
        return valueOf[stack[size - 1]];
    }

    public boolean alike() {
        if (size < 2) {
            return false;
        }
        workOutFormulas();
        return valueOf[stack[size - 1]] == valueOf[stack[size - 2]];
    }

    public int fair() {
        return someAlways(ALL);
    }

    public int reach(int s) {
        if (!isState(s)) {
            return BAD_ARG;
        }
        return closure(1 << s);
    }

    public int steps(int s) {
        if (!isState(s)) {
            return BAD_ARG;
        }
        if (size < 1) {
            return NONE;
        }
        workOutFormulas();
        int goal = valueOf[stack[size - 1]];
        int reached = 1 << s;
        // A shortest way visits no state twice, so it has fewer arcs than there are states.
        for (int count = 0; count < STATES; count++) {
            if ((reached & goal) != 0) {
                return count;
            }
            reached |= after(reached);
        }
        return NONE;
    }

    public int knots() {
        int count = 0;
        for (int s = 0; s < STATES; s++) {
            int self = 1 << s;
            int onward = closure(arcsOf[s]);
            int knot = onward & until(ALL, self);
            // Each knot is counted once, at its least state; knot is empty if s is on no circle.
            if ((knot & self) != 0 && (knot & (self - 1)) == 0) {
                count++;
            }
        }
        return count;
    }

    private boolean isState(int s) {
        return s >= 0 && s < STATES;
    }

    private boolean isSet(int set) {
        return set >= 0 && set <= ALL;
    }

    private boolean isMark(int k) {
        return k >= 0 && k < MARKS;
    }

    /** The callers have seen to it that there is room in the stack and for one more formula. */
    private void makeFormula(int kind, int op, int left, int right) {
        kindOf[made] = kind;
        opOf[made] = op;
        leftOf[made] = left;
        rightOf[made] = right;
        stack[size] = made;
        size++;
        made++;
    }

    private void workOutFormulas() {
        int fairSet = someAlways(ALL);
        for (int i = 0; i < made; i++) {
            int op = opOf[i];
            int f = valueOf[leftOf[i]];
            int g = valueOf[rightOf[i]];
            if (kindOf[i] == KIND_MARK) {
                valueOf[i] = marks[op];
            } else if (kindOf[i] == KIND_ONE) {
                valueOf[i] = valueOfOne(op, f, fairSet);
            } else {
                valueOf[i] = valueOfTwo(op, f, g, fairSet);
            }
        }
    }

    private int valueOfOne(int op, int f, int fairSet) {
        int notF = ALL & ~f;
        switch (op) {
            case SOME_NEXT:
                return before(f & fairSet);
            case SOME_EVER:
                return until(ALL, f & fairSet);
            case SOME_ALWAYS:
                return someAlways(f);
            case ALL_NEXT:
                return ALL & ~before(notF & fairSet);
            case ALL_EVER:
                return ALL & ~someAlways(notF);
            case ALL_ALWAYS:
                return ALL & ~until(ALL, notF & fairSet);
            case NOT:
            default:
                return notF;
        }
    }

    private int valueOfTwo(int op, int f, int g, int fairSet) {
        int notG = ALL & ~g;
        switch (op) {
            case OR:
                return f | g;
            case SOME_UNTIL:
                return until(f, g & fairSet);
            case ALL_UNTIL:
                // A run fails if G never comes, or if a state without F comes before G does.
                return ALL & ~(someAlways(notG) | until(notG, notG & ~f & fairSet));
            case AND:
            default:
                return f & g;
        }
    }

    /**
     * The states from which a fair run begins that stays in f. Each round keeps the states from
     * which one arc or more lead, within f, to a kept state of every demand; a round that changes
     * anything takes away a state, so as many rounds as states are enough.
     */
    private int someAlways(int f) {
        int kept = f;
        for (int round = 0; round < STATES; round++) {
            kept &= before(kept);
            for (int i = 0; i < demandCount; i++) {
                int meeting = until(f, kept & demands[i]);
                kept &= before(meeting);
            }
        }
        return kept;
    }

    /** The states from which arcs, none or more, lead to a state of g, all before it being in f. */
    private int until(int f, int g) {
        int found = g;
        for (int round = 0; round < STATES; round++) {
            found |= f & before(found);
        }
        return found;
    }

    /** The states to which arcs, none or more, lead from a state of the set. */
    private int closure(int set) {
        int found = set;
        for (int round = 0; round < STATES; round++) {
            found |= after(found);
        }
        return found;
    }

    /** The states from which an arc leads into the set. */
    private int before(int set) {
        int found = 0;
        for (int s = 0; s < STATES; s++) {
            if ((arcsOf[s] & set) != 0) {
                found |= 1 << s;
            }
        }
        return found;
    }

    /** The states to which an arc leads from the set. */
    private int after(int set) {
        int found = 0;
        for (int s = 0; s < STATES; s++) {
            if ((set & (1 << s)) != 0) {
                found |= arcsOf[s];
            }
        }
        return found;
    }
}
