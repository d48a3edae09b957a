/**
 * Compares FairRuns with a program that writes runs out, on machines of three states made by a fixed
 * rule. A run is written as a list of states that goes back, at its end, to one of them and so on
 * endlessly; each such run is judged by the words of the document. If there is a run of a kind at
 * all, there is such a one of few states: at most three until the formula is decided, two on to a
 * circle, and four around it through all of its states. So lists of ten states are enough.
 */
public final class LassoTest {
    private static final int STATES = 3;
    private static final int LONGEST = 10;
    private static final int MACHINES = 8000;

    // The kinds of run; of each it is noted from which states a fair one is and a fair one is not.
    private static final int NEXT = 0;
    private static final int EVER = 1;
    private static final int ALWAYS = 2;
    private static final int UNTIL = 3;
    private static final int KINDS = 4;

    private static int wrong = 0;
    private static long seed = 17L;

    private final int[] arcs = new int[STATES];
    private final int[] demands = new int[3];
    private int demandCount = 0;
    private int f = 0;
    private int g = 0;
    private final int[] list = new int[LONGEST];
    private final int[] isOne = new int[KINDS];
    private final int[] isNone = new int[KINDS];
    private int fairFrom = 0;

    public static void main(String[] args) {
        for (int i = 0; i < MACHINES; i++) {
            LassoTest test = new LassoTest();
            FairRuns x = test.build();
            for (int s = 0; s < STATES; s++) {
                test.list[0] = s;
                test.writeOn(1);
            }
            test.compare(x);
        }
        System.out.println(wrong == 0 ? "all answers are as due" : wrong + " answers are not as due");
        if (wrong != 0) {
            System.exit(1);
        }
    }

    /** A fixed rule that gives the same numbers each time; from 0 to below the bound. */
    private static int pick(int bound) {
        seed = seed * 6364136223846793005L + 1442695040888963407L;
        return (int) ((seed >>> 33) % bound);
    }

    private static boolean has(int set, int s) {
        return (set >> s & 1) != 0;
    }

    private FairRuns build() {
        FairRuns x = new FairRuns();
        for (int s = 0; s < STATES; s++) {
            arcs[s] = pick(3) == 0 ? pick(8) : pick(8) & pick(8);
            x.arcs(s, arcs[s]);
        }
        f = pick(256);
        g = pick(256);
        x.mark(0, f);
        x.mark(1, g);
        int count = pick(4);
        for (int i = 0; i < count; i++) {
            demands[i] = pick(8);
            x.demand(demands[i]);
        }
        demandCount = count;
        return x;
    }

    private void writeOn(int length) {
        int next = arcs[list[length - 1]];
        for (int back = 0; back < length; back++) {
            if (has(next, list[back]) && isFair(back, length)) {
                judge(back, length);
            }
        }
        for (int t = 0; t < STATES && length < LONGEST; t++) {
            if (has(next, t)) {
                list[length] = t;
                writeOn(length + 1);
            }
        }
    }

    private boolean isFair(int back, int length) {
        int endlesslyOften = 0;
        for (int i = back; i < length; i++) {
            endlesslyOften |= 1 << list[i];
        }
        for (int i = 0; i < demandCount; i++) {
            if ((endlesslyOften & demands[i]) == 0) {
                return false;
            }
        }
        return true;
    }

    private void judge(int back, int length) {
        int second = length > 1 ? list[1] : list[back];
        int all = 0;
        int beforeG = 0;
        boolean metG = false;
        for (int i = 0; i < length; i++) {
            all |= 1 << list[i];
            metG |= has(g, list[i]);
            beforeG |= metG ? 0 : 1 << list[i];
        }
        fairFrom |= 1 << list[0];
        note(NEXT, has(f, second));
        note(EVER, (all & f) != 0);
        note(ALWAYS, (all & ~f) == 0);
        note(UNTIL, metG && (beforeG & ~f) == 0);
    }

    private void note(int kind, boolean is) {
        if (is) {
            isOne[kind] |= 1 << list[0];
        } else {
            isNone[kind] |= 1 << list[0];
        }
    }

    private void due(String call, int got, int want) {
        if (got == want) {
            return;
        }
        wrong++;
        if (wrong <= 20) {
            System.out.println(call + " answered " + got + ", due is " + want + "; arcs "
                + java.util.Arrays.toString(arcs) + ", F " + f + ", G " + g + ", demands "
                + java.util.Arrays.toString(java.util.Arrays.copyOf(demands, demandCount)));
        }
    }

    private void compare(FairRuns x) {
        due("fair", x.fair(), fairFrom);
        for (int kind = NEXT; kind <= ALWAYS; kind++) {
            due("some, op " + (kind + 1), holdsOne(x, kind + 1), isOne[kind]);
            due("all, op " + (kind + 4), holdsOne(x, kind + 4), 255 & ~isNone[kind]);
        }
        due("some until", holdsTwo(x, 2), isOne[UNTIL]);
        due("all until", holdsTwo(x, 3), 255 & ~isNone[UNTIL]);
    }

    private static int holdsOne(FairRuns x, int op) {
        x.discard();
        x.push(0);
        x.one(op);
        return x.holds();
    }

    private static int holdsTwo(FairRuns x, int op) {
        x.discard();
        x.push(0);
        x.push(1);
        x.two(op);
        return x.holds();
    }
}
