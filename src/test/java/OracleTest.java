/**
 * Compares FairRuns with a second program on many machines made by a fixed rule. The second one
 * follows the document's words: it watches a run with a small monitor that tells in the end whether
 * the run is of the kind asked for, and looks for a fair circle among the pairs of state and watch.
 */
public final class OracleTest {
    private static final int STATES = 8;
    private static final int WATCHES = 4;
    private static final int PAIRS = STATES * WATCHES;

    // What a monitor says of the part of a run that it has seen: the last two never change again.
    private static final int BEGUN = 0;
    private static final int OPEN = 1;
    private static final int YES = 2;
    private static final int NO = 3;

    private static final int NEXT = 0;
    private static final int EVER = 1;
    private static final int ALWAYS = 2;
    private static final int UNTIL = 3;

    private static int wrong = 0;
    private static long seed = 20261115L;

    private final int[] arcs = new int[STATES];
    private final int[] marks = new int[4];
    private final int[] demands = new int[3];
    private int demandCount = 0;
    private final int[] stack = new int[6];
    private final String[] texts = new String[6];
    private int size = 0;

    public static void main(String[] args) {
        for (int i = 0; i < 6000; i++) {
            new OracleTest().tryMachine(i);
        }
        System.out.println(wrong == 0 ? "all answers are as due" : wrong + " answers are not as due");
        if (wrong != 0) {
            System.exit(1);
        }
    }

    /** A fixed rule that gives the same numbers each time; from 0 to below the bound. */
    private static int pick(int bound) {
        seed = seed * 6364136223846793005L + 1442695040888963407L;
        return (int) ((seed >>> 33) % bound);
    }

    private static int pickSet(int thickness) {
        int set = pick(256);
        for (int i = 0; i < thickness; i++) {
            set &= pick(256);
        }
        return set;
    }

    private void due(String call, int got, int want) {
        if (got == want) {
            return;
        }
        wrong++;
        if (wrong <= 20) {
            System.out.println(call + " answered " + got + ", due is " + want + "; arcs "
                + java.util.Arrays.toString(arcs) + ", marks " + java.util.Arrays.toString(marks)
                + ", demands " + java.util.Arrays.toString(java.util.Arrays.copyOf(demands, demandCount)));
        }
    }

    private void tryMachine(int number) {
        FairRuns x = new FairRuns();
        int thickness = number % 4;
        for (int s = 0; s < STATES; s++) {
            arcs[s] = pickSet(thickness);
            x.arcs(s, arcs[s]);
        }
        for (int k = 0; k < 4; k++) {
            marks[k] = pickSet(pick(2));
            x.mark(k, marks[k]);
        }
        int count = pick(4);
        for (int i = 0; i < count; i++) {
            demands[demandCount] = pickSet(pick(3));
            due("demand", x.demand(demands[demandCount]), demandCount + 1);
            demandCount++;
        }
        due("fair", x.fair(), fairSet());
        due("knots", x.knots(), knots());
        for (int s = 0; s < STATES; s++) {
            due("reach " + s, x.reach(s), reach(s));
        }
        tryFormulas(x);
        changedLater();
    }

    private void tryFormulas(FairRuns x) {
        for (int made = 0; made < 20; made++) {
            int choice = pick(3);
            if (size == 0 || (choice == 0 && size < 6)) {
                int k = pick(4);
                stack[size] = marks[k];
                texts[size] = "m" + k;
                size++;
                due("push", x.push(k), size);
            } else if (size == 1 || choice == 1) {
                int op = pick(7);
                stack[size - 1] = one(op, stack[size - 1]);
                texts[size - 1] = "one" + op + "(" + texts[size - 1] + ")";
                due("one", x.one(op), size);
            } else {
                int op = pick(4);
                size--;
                stack[size - 1] = two(op, stack[size - 1], stack[size]);
                texts[size - 1] = "two" + op + "(" + texts[size - 1] + ", " + texts[size] + ")";
                due("two", x.two(op), size);
            }
            due("holds " + texts[size - 1], x.holds(), stack[size - 1]);
            boolean same = size >= 2 && stack[size - 1] == stack[size - 2];
            due("alike", x.alike() ? 1 : 0, same ? 1 : 0);
            int s = pick(STATES);
            due("steps " + s + " " + texts[size - 1], x.steps(s), steps(s, stack[size - 1]));
        }
        due("push after 20", x.push(0), -2);
        due("one after 20", x.one(0), -2);
        due("depth", x.depth(), size);
    }

    /** Formulas are made first, and only then arcs, marks and demands. */
    private void changedLater() {
        FairRuns x = new FairRuns();
        int op = pick(7);
        int last = pick(4);
        x.push(0);
        x.one(op);
        x.push(1);
        x.two(last);
        x.holds();
        for (int s = 0; s < STATES; s++) {
            x.arcs(s, arcs[s]);
        }
        x.mark(0, marks[0]);
        x.mark(1, marks[1]);
        for (int i = 0; i < demandCount; i++) {
            x.demand(demands[i]);
        }
        int want = two(last, one(op, marks[0]), marks[1]);
        due("holds two" + last + "(one" + op + "(m0), m1), made before", x.holds(), want);
    }

    private int one(int op, int f) {
        switch (op) {
            case 0:
                return 255 ^ f;
            case 1:
                return some(NEXT, f, 0);
            case 2:
                return some(EVER, f, 0);
            case 3:
                return some(ALWAYS, f, 0);
            case 4:
                return all(NEXT, f, 0);
            case 5:
                return all(EVER, f, 0);
            default:
                return all(ALWAYS, f, 0);
        }
    }

    private int two(int op, int f, int g) {
        switch (op) {
            case 0:
                return f & g;
            case 1:
                return f | g;
            case 2:
                return some(UNTIL, f, g);
            default:
                return all(UNTIL, f, g);
        }
    }

    private int fairSet() {
        return some(ALWAYS, 255, 0);
    }

    /** A run that stays open for ever is one of the kind only if the kind is ALWAYS. */
    private int some(int kind, int f, int g) {
        return withFairRun(kind, f, g, kind == ALWAYS ? OPEN : YES, YES);
    }

    private int all(int kind, int f, int g) {
        return 255 ^ withFairRun(kind, f, g, kind == ALWAYS ? NO : OPEN, NO);
    }

    private static int watch(int kind, int seen, int state, int f, int g) {
        boolean inF = (f >> state & 1) != 0;
        boolean inG = (g >> state & 1) != 0;
        if (seen == YES || seen == NO) {
            return seen;
        }
        switch (kind) {
            case NEXT:
                return seen == BEGUN ? OPEN : inF ? YES : NO;
            case EVER:
                return inF ? YES : OPEN;
            case ALWAYS:
                return inF ? OPEN : NO;
            default:
                return inG ? YES : inF ? OPEN : NO;
        }
    }

    /** The states from which a fair run begins on which the monitor stays at one of two words. */
    private int withFairRun(int kind, int f, int g, int word, int otherWord) {
        boolean[][] leads = new boolean[PAIRS][PAIRS];
        for (int p = 0; p < PAIRS; p++) {
            for (int t = 0; t < STATES; t++) {
                if ((arcs[p % STATES] >> t & 1) != 0) {
                    leads[p][t + STATES * watch(kind, p / STATES, t, f, g)] = true;
                }
            }
        }
        close(leads);
        int found = 0;
        for (int s = 0; s < STATES; s++) {
            int begin = s + STATES * watch(kind, BEGUN, s, f, g);
            for (int p = 0; p < PAIRS; p++) {
                boolean asked = p / STATES == word || p / STATES == otherWord;
                if (asked && (p == begin || leads[begin][p]) && isOnFairCircle(leads, p)) {
                    found |= 1 << s;
                }
            }
        }
        return found;
    }

    private boolean isOnFairCircle(boolean[][] leads, int p) {
        if (!leads[p][p]) {
            return false;
        }
        int circle = 0;
        for (int q = 0; q < PAIRS; q++) {
            if (leads[p][q] && leads[q][p]) {
                circle |= 1 << (q % STATES);
            }
        }
        for (int i = 0; i < demandCount; i++) {
            if ((circle & demands[i]) == 0) {
                return false;
            }
        }
        return true;
    }

    private static void close(boolean[][] leads) {
        for (int m = 0; m < leads.length; m++) {
            for (int a = 0; a < leads.length; a++) {
                for (int b = 0; leads[a][m] && b < leads.length; b++) {
                    leads[a][b] |= leads[m][b];
                }
            }
        }
    }

    private boolean[][] leadsWithin(int set) {
        boolean[][] leads = new boolean[STATES][STATES];
        for (int a = 0; a < STATES; a++) {
            for (int b = 0; b < STATES; b++) {
                boolean within = (set >> a & set >> b & 1) != 0;
                leads[a][b] = within && (arcs[a] >> b & 1) != 0;
            }
        }
        close(leads);
        return leads;
    }

    private int reach(int s) {
        boolean[][] leads = leadsWithin(255);
        int found = 1 << s;
        for (int t = 0; t < STATES; t++) {
            found |= leads[s][t] ? 1 << t : 0;
        }
        return found;
    }

    private int steps(int s, int goal) {
        int[] far = new int[STATES];
        java.util.Arrays.fill(far, 99);
        far[s] = 0;
        for (int round = 0; round < STATES; round++) {
            for (int a = 0; a < STATES; a++) {
                for (int b = 0; b < STATES; b++) {
                    if ((arcs[a] >> b & 1) != 0 && far[a] + 1 < far[b]) {
                        far[b] = far[a] + 1;
                    }
                }
            }
        }
        int least = 99;
        for (int t = 0; t < STATES; t++) {
            if ((goal >> t & 1) != 0 && far[t] < least) {
                least = far[t];
            }
        }
        return least == 99 ? -4 : least;
    }

    private int knots() {
        boolean[] tied = new boolean[256];
        for (int set = 1; set < 256; set++) {
            tied[set] = isTied(set);
        }
        int count = 0;
        for (int set = 1; set < 256; set++) {
            boolean greatest = tied[set];
            for (int more = set + 1; more < 256; more++) {
                greatest &= !(tied[more] && (more & set) == set);
            }
            count += greatest ? 1 : 0;
        }
        return count;
    }

    private boolean isTied(int set) {
        boolean[][] leads = leadsWithin(set);
        for (int a = 0; a < STATES; a++) {
            for (int b = 0; b < STATES; b++) {
                if ((set >> a & set >> b & 1) != 0 && !leads[a][b]) {
                    return false;
                }
            }
        }
        return true;
    }
}
