/** Promise 14: check, on chains whose values are known by hand. */
public final class CheckTest {
    private static final int OK = MarkovChecker.OK;
    private static final int UNBOUNDED = MarkovChecker.UNBOUNDED;
    private static final Due due = new Due();

    public static void main(String[] args) {
        emptyRows();
        noNodes();
        connectives();
        boundZero();
        boundedSteps();
        largeBoundedDenominators();
        unboundedSets();
        loops();
        ruin();
        tenInARow();
        thresholds();
        nested();
        checkAgain();
        due.end();
    }

    /** Gives row s the weights, in the order of the states. */
    private static void row(MarkovChecker m, int s, int... weights) {
        for (int t = 0; t < m.stateCount(); t++) {
            m.setWeight(s, t, 0);
        }
        for (int t = 0; t < weights.length; t++) {
            due.same("setWeight(" + s + ", " + t + ")", m.setWeight(s, t, weights[t]), OK);
        }
    }

    /** Turns label a on at the states of the set and adds its atom. */
    private static int atom(MarkovChecker m, int a, int set) {
        for (int s = 0; s < m.stateCount(); s++) {
            m.setLabel(s, a, (set >> s & 1) == 1);
        }
        return m.addAtom(a);
    }

    private static void emptyRows() {
        for (int n = 2; n <= 12; n++) {
            for (int s = 0; s < n; s++) {
                MarkovChecker m = new MarkovChecker(n);
                int all = m.addAtom(MarkovChecker.ATOM_TRUE);
                int until = m.addUntil(all, all, UNBOUNDED);
                m.setWeight(s, s, 0);
                due.refused("check() of an empty row", m, m::check, MarkovChecker.ERR_ROW);
                due.same("not valid", m.probDen(until, 0), 0L);
                due.same("not valid", m.holds(all, s), false);
                m.setWeight(s, (s + 1) % n, 2);
                due.same("check()", m.check(), OK);
                due.value(m, until, s, 1, 1);
                due.same("holds", m.holds(all, s), true);
            }
        }
        MarkovChecker bare = new MarkovChecker(2);
        bare.setWeight(1, 1, 0);
        due.refused("check() with no nodes", bare, bare::check, MarkovChecker.ERR_ROW);
    }

    private static void noNodes() {
        MarkovChecker m = new MarkovChecker(2);
        due.same("check() with no nodes", m.check(), OK);
        due.same("and again", m.check(), OK);
        due.same("nodeKind(0)", m.nodeKind(0), MarkovChecker.KIND_NONE);
    }

    private static void connectives() {
        MarkovChecker m = new MarkovChecker(12);
        int a = atom(m, 0, 0b1010_1010_1010);
        int b = atom(m, 3, 0b1100_1100_1100);
        int and = m.addAnd(a, b);
        int not = m.addNot(and);
        int self = m.addAnd(not, not);
        int none = m.addAnd(not, and);
        int back = m.addNot(not);
        due.same("check()", m.check(), OK);
        due.truth(m, a, 0b1010_1010_1010);
        due.truth(m, b, 0b1100_1100_1100);
        due.truth(m, and, 0b1000_1000_1000);
        due.truth(m, not, 0b0111_0111_0111);
        due.truth(m, self, 0b0111_0111_0111);
        due.truth(m, none, 0);
        due.truth(m, back, 0b1000_1000_1000);
    }

    private static void boundZero() {
        MarkovChecker m = new MarkovChecker(4);
        row(m, 0, 0, 1, 1, 1);
        int phi = atom(m, 0, 0b0011);
        int psi = atom(m, 1, 0b0110);
        int until = m.addUntil(phi, psi, 0);
        due.same("check()", m.check(), OK);
        due.value(m, until, 0, 0, 1);
        due.value(m, until, 1, 1, 1);
        due.value(m, until, 2, 1, 1);
        due.value(m, until, 3, 0, 1);
    }

    /** A walk 0, 1, 2, 3, 4 that stays half the time, so that each step on is a head of a coin. */
    private static void boundedSteps() {
        MarkovChecker m = new MarkovChecker(5);
        row(m, 0, 1, 1);
        row(m, 1, 0, 1, 1);
        row(m, 2, 0, 0, 1, 1);
        row(m, 3, 0, 0, 0, 1, 1);
        atom(m, 0, 0b11000);
        atom(m, 1, 0b11011);
        for (int k = 0; k <= 8; k++) {
            m.clearFormulas();
            int goal = m.addAtom(0);
            int all = m.addAtom(MarkovChecker.ATOM_TRUE);
            int notTwo = m.addAtom(1);
            int free = m.addUntil(all, goal, k);
            int barred = m.addUntil(notTwo, goal, k);
            due.same("check()", m.check(), OK);
            long runs = 1L << k;
            due.value(m, free, 0, reduced(heads(k, 3), runs), reduced(runs, heads(k, 3)));
            due.value(m, free, 1, reduced(heads(k, 2), runs), reduced(runs, heads(k, 2)));
            due.value(m, free, 2, reduced(heads(k, 1), runs), reduced(runs, heads(k, 1)));
            due.value(m, free, 3, 1, 1);
            due.value(m, free, 4, 1, 1);
            due.value(m, barred, 0, 0, 1);
            due.value(m, barred, 1, 0, 1);
            due.value(m, barred, 2, 0, 1);
            due.value(m, barred, 3, 1, 1);
        }
    }

    /** How many of the 2^k runs of k tosses have at least so many heads. */
    private static long heads(int k, int least) {
        long count = 0;
        for (int run = 0; run < 1 << k; run++) {
            if (Integer.bitCount(run) >= least) {
                count++;
            }
        }
        return count;
    }

    private static long divisor(long a, long b) {
        return b == 0 ? a : divisor(b, a % b);
    }

    /** What is left of a when the fraction of a and b is reduced. */
    private static long reduced(long a, long b) {
        return a / divisor(a, b);
    }

    /** Eight steps through rows of total 4, of total 3, and of one total after the other. */
    private static void largeBoundedDenominators() {
        MarkovChecker m = new MarkovChecker(4);
        row(m, 0, 3, 0, 1);
        row(m, 1, 0, 2, 1);
        row(m, 3, 1, 3);
        int goal = atom(m, 2, 0b0100);
        int all = m.addAtom(MarkovChecker.ATOM_TRUE);
        int until = m.addUntil(all, goal, 8);
        due.same("check()", m.check(), OK);
        due.value(m, until, 0, 65536 - 6561, 65536);
        due.value(m, until, 1, 6561 - 256, 6561);
        // 1/4 (1 - (3/4)^7) + 3/4 (1 - (2/3)^7), over 4^8 * 3^6 when reduced.
        long den = 65536L * 729;
        long num = (16384 - 2187) * 729L + (2187 - 128) * 16384L;
        due.value(m, until, 3, reduced(num, den), reduced(den, num));
    }

    /**
     * State 0 goes to 1, 2 and 3 alike. 1 is in PSI though not in PHI; 2 is in neither; 3 is in PHI
     * and loops for ever; 4 reaches PSI surely, by way of 5; 6 is in PSI and leads to 2.
     */
    private static void unboundedSets() {
        MarkovChecker m = new MarkovChecker(8);
        row(m, 0, 0, 1, 1, 1);
        row(m, 1, 0, 0, 1);
        row(m, 2, 0, 1);
        row(m, 3, 0, 0, 0, 4);
        row(m, 4, 0, 0, 0, 0, 3, 1);
        row(m, 5, 0, 0, 0, 0, 2, 0, 1);
        row(m, 6, 0, 0, 1, 2);
        row(m, 7, 1, 0, 0, 0, 1);
        int phi = atom(m, 0, 0b1111_1001);
        int psi = atom(m, 1, 0b0100_0010);
        int until = m.addUntil(phi, psi, UNBOUNDED);
        due.same("check()", m.check(), OK);
        due.value(m, until, 0, 1, 3);
        due.value(m, until, 1, 1, 1);
        due.value(m, until, 2, 0, 1);
        due.value(m, until, 3, 0, 1);
        due.value(m, until, 4, 1, 1);
        due.value(m, until, 5, 1, 1);
        due.value(m, until, 6, 1, 1);
        due.value(m, until, 7, 2, 3);
        emptyAndFullGoal(m, phi);
    }

    private static void emptyAndFullGoal(MarkovChecker m, int phi) {
        int all = m.addAtom(MarkovChecker.ATOM_TRUE);
        int none = m.addNot(all);
        int never = m.addUntil(all, none, UNBOUNDED);
        int always = m.addUntil(none, all, UNBOUNDED);
        int own = m.addUntil(none, phi, UNBOUNDED);
        int neverSoon = m.addUntil(all, none, 8);
        due.same("check()", m.check(), OK);
        for (int s = 0; s < m.stateCount(); s++) {
            due.value(m, never, s, 0, 1);
            due.value(m, always, s, 1, 1);
            due.value(m, own, s, m.holds(phi, s) ? 1 : 0, 1);
            due.value(m, neverSoon, s, 0, 1);
        }
    }

    /** States that mostly stay where they are, and a pair that cannot leave each other. */
    private static void loops() {
        MarkovChecker m = new MarkovChecker(6);
        row(m, 0, 3, 1);
        row(m, 1, 1, 2, 1);
        row(m, 3, 0, 0, 0, 0, 1);
        row(m, 4, 0, 0, 0, 1);
        row(m, 5, 0, 1, 0, 1, 0, 2);
        int goal = atom(m, 0, 0b000100);
        int all = m.addAtom(MarkovChecker.ATOM_TRUE);
        int until = m.addUntil(all, goal, UNBOUNDED);
        due.same("check()", m.check(), OK);
        due.value(m, until, 0, 1, 1);
        due.value(m, until, 1, 1, 1);
        due.value(m, until, 2, 1, 1);
        due.value(m, until, 3, 0, 1);
        due.value(m, until, 4, 0, 1);
        due.value(m, until, 5, 1, 2);
    }

    /** A gambler's ruin over all twelve states: weight 1 up and 1 to 3 down. */
    private static void ruin() {
        for (int down = 1; down <= 3; down++) {
            MarkovChecker m = new MarkovChecker(12);
            for (int s = 1; s < 11; s++) {
                m.setWeight(s, s, 0);
                m.setWeight(s, s - 1, down);
                m.setWeight(s, s + 1, 1);
            }
            int goal = atom(m, 0, 1 << 11);
            int all = m.addAtom(MarkovChecker.ATOM_TRUE);
            int until = m.addUntil(all, goal, UNBOUNDED);
            due.same("check()", m.check(), OK);
            long whole = upTo(down, 11);
            for (int s = 0; s < 12; s++) {
                long part = upTo(down, s);
                due.value(m, until, s, reduced(part, whole), reduced(whole, part));
            }
        }
    }

    /** 1 + base + base^2 + ..., with so many terms. */
    private static long upTo(int base, int terms) {
        long sum = 0;
        for (int i = 0; i < terms; i++) {
            sum = sum * base + 1;
        }
        return sum;
    }

    /** Ten states in a row that go on or fail: 4^10, the greatest denominator of an unbounded until. */
    private static void tenInARow() {
        MarkovChecker m = new MarkovChecker(12);
        for (int s = 0; s < 10; s++) {
            m.setWeight(s, s, 0);
            m.setWeight(s, s + 1 == 10 ? 11 : s + 1, 3);
            m.setWeight(s, 10, 1);
        }
        int goal = atom(m, 0, 1 << 11);
        int all = m.addAtom(MarkovChecker.ATOM_TRUE);
        int until = m.addUntil(all, goal, UNBOUNDED);
        due.same("check()", m.check(), OK);
        long num = 1;
        long den = 1;
        for (int s = 9; s >= 0; s--) {
            num *= 3;
            den *= 4;
            due.value(m, until, s, num, den);
        }
        due.value(m, until, 10, 0, 1);
        due.value(m, until, 11, 1, 1);
    }

    /** Values 1/3, 1 and 0 against thresholds on, just below and just above them. */
    private static void thresholds() {
        int[][] cases = {
            // op, num, den, states where it holds
            {0, 1, 3, 0b011}, {1, 1, 3, 0b010}, {2, 1, 3, 0b101}, {3, 1, 3, 0b100},
            {0, 341, 1023, 0b011}, {1, 341, 1023, 0b010}, {2, 341, 1023, 0b101}, {3, 341, 1023, 0b100},
            {0, 341, 1024, 0b011}, {1, 341, 1024, 0b011}, {2, 341, 1024, 0b100}, {3, 341, 1024, 0b100},
            {0, 342, 1024, 0b010}, {1, 342, 1024, 0b010}, {2, 342, 1024, 0b101}, {3, 342, 1024, 0b101},
            {0, 0, 1, 0b111}, {1, 0, 1, 0b011}, {2, 0, 1, 0b100}, {3, 0, 1, 0b000},
            {0, 0, 7, 0b111}, {1, 0, 7, 0b011}, {2, 0, 7, 0b100}, {3, 0, 7, 0b000},
            {0, 1, 1, 0b010}, {1, 1, 1, 0b000}, {2, 1, 1, 0b111}, {3, 1, 1, 0b101},
            {0, 1024, 1024, 0b010}, {1, 1024, 1024, 0b000}, {2, 1024, 1024, 0b111}, {3, 1024, 1024, 0b101},
        };
        MarkovChecker m = new MarkovChecker(3);
        row(m, 0, 1, 1, 2);
        m.setLabel(1, 0, true);
        for (int[] one : cases) {
            m.clearFormulas();
            int all = m.addAtom(MarkovChecker.ATOM_TRUE);
            int goal = m.addAtom(0);
            int until = m.addUntil(all, goal, UNBOUNDED);
            int compare = m.addCompare(until, one[0], one[1], one[2]);
            due.same("check()", m.check(), OK);
            due.value(m, until, 0, 1, 3);
            due.truth(m, compare, one[3]);
        }
    }

    /** Until over the comparison of another until. */
    private static void nested() {
        MarkovChecker m = new MarkovChecker(5);
        row(m, 0, 0, 1, 1);
        row(m, 1, 0, 0, 0, 1, 1);
        row(m, 2, 0, 1, 0, 0, 3);
        int goal = atom(m, 0, 0b01000);
        int all = m.addAtom(MarkovChecker.ATOM_TRUE);
        int inner = m.addUntil(all, goal, UNBOUNDED);
        int likely = m.addCompare(inner, MarkovChecker.OP_GE, 1, 2);
        int outer = m.addUntil(all, likely, 1);
        int unlikely = m.addNot(likely);
        int safe = m.addUntil(unlikely, likely, UNBOUNDED);
        int sure = m.addCompare(outer, MarkovChecker.OP_GT, 1, 4);
        int both = m.addAnd(sure, unlikely);
        due.same("check()", m.check(), OK);
        due.value(m, inner, 0, 5, 16);
        due.value(m, inner, 1, 1, 2);
        due.value(m, inner, 2, 1, 8);
        due.truth(m, likely, 0b01010);
        due.value(m, outer, 0, 1, 2);
        due.value(m, outer, 2, 1, 4);
        due.value(m, safe, 0, 5, 8);
        due.value(m, safe, 2, 1, 4);
        due.truth(m, sure, 0b01011);
        due.truth(m, both, 0b00001);
    }

    /** Nothing of an earlier check is left in a later one, and check itself changes no input. */
    private static void checkAgain() {
        MarkovChecker m = new MarkovChecker(4);
        row(m, 0, 0, 1, 1);
        row(m, 1, 1, 0, 1, 2);
        int goal = atom(m, 0, 0b1000);
        int all = m.addAtom(MarkovChecker.ATOM_TRUE);
        int until = m.addUntil(all, goal, UNBOUNDED);
        int compare = m.addCompare(until, MarkovChecker.OP_GE, 1, 2);
        String chain = Due.chain(m);
        due.same("check()", m.check(), OK);
        due.same("chain after check()", Due.chain(m), chain);
        due.value(m, until, 0, 2, 7);
        due.value(m, until, 1, 4, 7);
        due.truth(m, compare, 0b1010);
        String first = Due.picture(m);
        due.same("check() again", m.check(), OK);
        due.same("picture after check() again", Due.picture(m), first);
        m.setLabel(3, 0, false);
        m.setLabel(2, 0, true);
        due.same("check()", m.check(), OK);
        due.value(m, until, 0, 5, 7);
        due.value(m, until, 3, 0, 1);
        due.truth(m, compare, 0b0101);
    }
}
