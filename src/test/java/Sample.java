import java.math.BigInteger;
import java.util.stream.IntStream;

/** Objects that many tests start from, and the numbers around a range. Every call makes a new one. */
final class Sample {
    static final int ALL = 0;
    static final int GOAL = 1;
    static final int UNTIL = 2;
    static final int COMPARE = 3;
    static final int NOT = 4;
    static final int AND = 5;
    static final int COUNT = 6;

    private Sample() {
    }

    /**
     * A node of every kind over n states. Row 0 has a total of 3 and row n-1 one of 4, the others
     * stay where they are with 1. Label 0 is on at n-1 alone, label 3 at 0 alone.
     */
    static MarkovChecker of(int n) {
        MarkovChecker m = new MarkovChecker(n);
        m.setWeight(0, n - 1, 2);
        m.setWeight(n - 1, 0, 3);
        m.setLabel(n - 1, 0, true);
        m.setLabel(0, 3, true);
        m.addAtom(MarkovChecker.ATOM_TRUE);
        m.addAtom(0);
        m.addUntil(ALL, GOAL, 2);
        m.addCompare(UNTIL, MarkovChecker.OP_GE, 8, 9);
        m.addNot(COMPARE);
        m.addAnd(COMPARE, GOAL);
        return m;
    }

    /** The same with atoms after it, so that there are so many nodes. */
    static MarkovChecker filled(int n, int count) {
        MarkovChecker m = of(n);
        for (int i = COUNT; i < count; i++) {
            m.addAtom(i % 5);
        }
        return m;
    }

    /** Gives row s the weights, in the order of the states, and no other. */
    static void row(MarkovChecker m, int s, int... weights) {
        for (int t = 0; t < m.stateCount(); t++) {
            m.setWeight(s, t, 0);
        }
        for (int t = 0; t < weights.length; t++) {
            m.setWeight(s, t, weights[t]);
        }
    }

    /** Turns label a on at the states of the set, bit s for state s, and adds its atom. */
    static int atom(MarkovChecker m, int a, int set) {
        for (int s = 0; s < m.stateCount(); s++) {
            m.setLabel(s, a, (set >> s & 1) == 1);
        }
        return m.addAtom(a);
    }

    /** What is left of a when the fraction of a and b is reduced. */
    static long reduced(long a, long b) {
        return a / BigInteger.valueOf(a).gcd(BigInteger.valueOf(b)).longValue();
    }

    /**
     * Numbers outside low..high: next to it, at both ends of int, and some that a shift, a product
     * with 12 or 16 or a cut to fewer bits would bring back into it.
     */
    static int[] outside(int low, int high) {
        return IntStream.of(
                Integer.MIN_VALUE, Integer.MIN_VALUE + 1, -(1 << 30), low - 65536, low - 256, low - 32,
                low - 12, low - 2, low - 1, high + 1, high + 2, low + 12, low + 16, low + 32,
                low + 256, low + 65536, 1 << 28, 1 << 30, Integer.MAX_VALUE - 1, Integer.MAX_VALUE)
            .filter(x -> x < low || x > high)
            .distinct()
            .toArray();
    }
}
