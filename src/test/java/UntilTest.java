/** Promise 14: the values of until nodes, on chains whose values are known by hand. */
public final class UntilTest {
    private static final int OK = MarkovChecker.OK;
    private static final int UNBOUNDED = MarkovChecker.UNBOUNDED;
    private static final int[] BOUNDS = {UNBOUNDED, 0, 1, 7, 8};
    private static final Due due = new Due();

    public static void main(String[] args) {
        boundZero();
        lineOfTwelve();
        brokenLine();
        goalEmpty();
        goalAll();
        leftEmpty();
        leftAll();
        atOnce();
        outsideBoth();
        lastStepOutsideLeft();
        zeroSetEmpty();
        zeroSetAll();
        zeroAndOneSetsAlone();
        noMoveWithoutWeight();
        throughTheGoal();
        closedLoop();
        openLoop();
        oneOtherState();
        boundedSteps();
        largeBoundedDenominators();
        unboundedSets();
        ruin();
        tenInARow();
        childrenOfEveryKind();
        due.end();
    }

    /** Checks a chain and answers the index of an until node over two sets of states. */
    private static int until(MarkovChecker m, int phi, int psi, int bound) {
        m.clearFormulas();
        int left = Sample.atom(m, 0, phi);
        int right = Sample.atom(m, 1, psi);
        int node = m.addUntil(left, right, bound);
        due.same("check()", m.check(), OK);
        return node;
    }

    /** The value is to be 1/1 on the set and 0/1 elsewhere. */
    private static void oneOn(MarkovChecker m, int phi, int psi, int bound, int set) {
        int node = until(m, phi, psi, bound);
        for (int s = 0; s < m.stateCount(); s++) {
            due.value(m, node, s, set >> s & 1, 1);
        }
    }

    /** Every state moves to every other, as far as a row has room. */
    private static MarkovChecker dense(int n) {
        MarkovChecker m = new MarkovChecker(n);
        for (int s = 0; s < n; s++) {
            for (int t = 0; t < n; t++) {
                m.setWeight(s, (s + t) % n, 1);
            }
        }
        return m;
    }

    /** State s moves to s+1, and the last one stays. */
    private static MarkovChecker line(int n) {
        MarkovChecker m = new MarkovChecker(n);
        for (int s = 0; s < n - 1; s++) {
            m.setWeight(s, s, 0);
            m.setWeight(s, s + 1, 1 + s % 4);
        }
        return m;
    }

    private static void boundZero() {
        due.of("promise 14", "for a bounded until node with k = 0 the value is 1 on PSI and 0 elsewhere");
        for (int phi = 0; phi < 8; phi++) {
            for (int psi = 0; psi < 8; psi++) {
                oneOn(dense(3), phi, psi, 0, psi);
            }
        }
        oneOn(dense(12), 0b1111_1111_1111, 0b1000_0000_0001, 0, 0b1000_0000_0001);
    }

    private static void lineOfTwelve() {
        due.of("What it is", "with bound k in 0..8, additionally j <= k");
        for (int k = 0; k <= 8; k++) {
            oneOn(line(12), 0xfff, 1 << 11, k, 0xfff & -(1 << 11 - k));
        }
        due.of("What it is", "with k = UNBOUNDED there is no limit on j");
        oneOn(line(12), 0xfff, 1 << 11, UNBOUNDED, 0xfff);
    }

    /** One state of the line is not in PHI, so that it and all before it never get through. */
    private static void brokenLine() {
        due.of("What it is", "some j >= 0 has s_j in PSI and s_i in PHI for all i < j");
        for (int gap = 0; gap < 11; gap++) {
            int phi = 0xfff & ~(1 << gap);
            int behind = 0xfff & -(2 << gap);
            oneOn(line(12), phi, 1 << 11, UNBOUNDED, behind);
            oneOn(line(12), phi, 1 << 11, 8, behind & -(1 << 3));
        }
    }

    private static void goalEmpty() {
        due.of("promise 14, PSI is empty", "The stored values obey the definitions exactly.");
        for (int n = 2; n <= 12; n++) {
            for (int k : BOUNDS) {
                oneOn(dense(n), (1 << n) - 1, 0, k, 0);
                oneOn(dense(n), 1, 0, k, 0);
                oneOn(dense(n), 0, 0, k, 0);
            }
        }
    }

    private static void goalAll() {
        due.of("promise 14, PSI is all states", "The stored values obey the definitions exactly.");
        for (int n = 2; n <= 12; n++) {
            int every = (1 << n) - 1;
            for (int k : BOUNDS) {
                oneOn(dense(n), every, every, k, every);
                oneOn(dense(n), 2, every, k, every);
                oneOn(dense(n), 0, every, k, every);
            }
        }
    }

    private static void leftEmpty() {
        due.of("promise 14, PHI is empty", "The stored values obey the definitions exactly.");
        for (int n = 2; n <= 12; n++) {
            for (int k : BOUNDS) {
                oneOn(dense(n), 0, 1, k, 1);
                oneOn(dense(n), 0, 1 << n - 1, k, 1 << n - 1);
                oneOn(dense(n), 0, (1 << n) - 2, k, (1 << n) - 2);
            }
        }
    }

    private static void leftAll() {
        due.of("promise 14, PHI is all states", "The stored values obey the definitions exactly.");
        for (int n = 2; n <= 12; n++) {
            int every = (1 << n) - 1;
            oneOn(dense(n), every, 1, 0, 1);
            oneOn(dense(n), every, 1, UNBOUNDED, every);
            oneOn(new MarkovChecker(n), every, 1, UNBOUNDED, 1);
            oneOn(new MarkovChecker(n), every, 1, 8, 1);
        }
        MarkovChecker m = dense(4);
        int node = until(m, 0b1111, 0b0001, 8);
        due.value(m, node, 0, 1, 1);
        due.value(m, node, 3, 65536 - 6561, 65536);
    }

    /** A state of PSI is at the goal with j = 0, whether it is in PHI and wherever it leads. */
    private static void atOnce() {
        due.of("What it is", "sequence s = s0, s1, ..., sm (m >= 0)");
        for (int k : BOUNDS) {
            MarkovChecker m = new MarkovChecker(3);
            Sample.row(m, 0, 0, 0, 4);
            oneOn(m, 0b110, 0b001, k, 0b001);
            oneOn(m, 0b111, 0b001, k, 0b001);
        }
    }

    private static void outsideBoth() {
        due.of("What it is", "sm in PSI and s0..s_(m-1) all in PHI");
        for (int k : BOUNDS) {
            MarkovChecker m = new MarkovChecker(3);
            Sample.row(m, 0, 0, 4);
            oneOn(m, 0b110, 0b010, k, 0b010);
        }
    }

    private static void lastStepOutsideLeft() {
        due.of("What it is", "sm in PSI and s0..s_(m-1) all in PHI");
        MarkovChecker m = new MarkovChecker(3);
        Sample.row(m, 0, 0, 4);
        oneOn(m, 0b001, 0b010, UNBOUNDED, 0b011);
        oneOn(m, 0b001, 0b010, 1, 0b011);
        oneOn(m, 0b001, 0b010, 0, 0b010);
    }

    /** A ring reaches its one goal from everywhere, so S0 is empty and S1 is all states. */
    private static void zeroSetEmpty() {
        due.of("promise 14, S0 is empty, S1 is all states", "the value is 0/1 on S0, 1/1 on S1");
        for (int n = 2; n <= 12; n++) {
            MarkovChecker m = line(n);
            Sample.row(m, n - 1, 3, 0);
            m.setWeight(n - 1, n - 1, 1);
            oneOn(m, (1 << n) - 1, 1 << n / 2, UNBOUNDED, (1 << n) - 1);
        }
    }

    /** States of PSI are all in S1, so S1 is empty only where S0 is all states. */
    private static void zeroSetAll() {
        due.of("promise 14, S0 is all states, S1 is empty", "the value is 0/1 on S0, 1/1 on S1");
        for (int n = 2; n <= 12; n++) {
            oneOn(line(n), (1 << n) - 1, 0, UNBOUNDED, 0);
            oneOn(line(n), 0, 0, UNBOUNDED, 0);
        }
    }

    private static void zeroAndOneSetsAlone() {
        due.of("promise 14, no other state", "the value is 0/1 on S0, 1/1 on S1");
        for (int n = 2; n <= 12; n++) {
            oneOn(new MarkovChecker(n), (1 << n) - 1, 1 << n - 1, UNBOUNDED, 1 << n - 1);
            oneOn(new MarkovChecker(n), 0, 1, UNBOUNDED, 1);
            oneOn(line(n), (1 << n) - 1, 1 << n - 2, UNBOUNDED, (1 << n - 1) - 1);
        }
    }

    private static void noMoveWithoutWeight() {
        due.of("What it is", "with w(s_i, s_(i+1)) > 0 for all i < m");
        MarkovChecker m = new MarkovChecker(3);
        m.setWeight(0, 1, 1);
        oneOn(m, 0b111, 0b010, UNBOUNDED, 0b011);
        m.setWeight(0, 1, 0);
        oneOn(m, 0b111, 0b010, UNBOUNDED, 0b010);
        oneOn(m, 0b111, 0b010, 8, 0b010);
    }

    /** What comes behind the goal counts no more: 0 goes to 1, which leads to 2 and never back. */
    private static void throughTheGoal() {
        due.of("What it is", "s0..s_(m-1) all in PHI and not in PSI, and sm in S0");
        MarkovChecker m = new MarkovChecker(3);
        Sample.row(m, 0, 3, 1);
        Sample.row(m, 1, 0, 0, 1);
        oneOn(m, 0b111, 0b010, UNBOUNDED, 0b011);
        oneOn(m, 0b011, 0b010, UNBOUNDED, 0b011);
        oneOn(m, 0b001, 0b010, UNBOUNDED, 0b011);
    }

    /** 1 and 2 are in PHI and move for ever, but never to the goal. */
    private static void closedLoop() {
        due.of("What it is", "S0 = states s for which there is NO finite sequence");
        MarkovChecker m = new MarkovChecker(4);
        Sample.row(m, 1, 0, 0, 4);
        Sample.row(m, 2, 0, 1, 3);
        oneOn(m, 0b1111, 0b1001, UNBOUNDED, 0b1001);
        oneOn(m, 0b1111, 0b1001, 8, 0b1001);
    }

    /** 0 mostly stays and 1 mostly goes back, but in the end they leave for the goal alone. */
    private static void openLoop() {
        due.of("promise 14", "1/1 on S1");
        MarkovChecker m = new MarkovChecker(4);
        Sample.row(m, 0, 3, 1);
        Sample.row(m, 1, 3, 0, 1);
        Sample.row(m, 3, 3, 0, 0, 1);
        oneOn(m, 0b1111, 0b0100, UNBOUNDED, 0b1111);
    }

    private static void oneOtherState() {
        due.of("promise 14", "on every other state s equals exactly the sum over t of (w(s,t)/d(s)) * value(t)");
        for (int stay = 0; stay <= 2; stay++) {
            for (int good = 1; good + stay <= 3; good++) {
                MarkovChecker up = new MarkovChecker(3);
                Sample.row(up, 1, 4 - stay - good, stay, good);
                oneOther(up, 0, good, 4 - stay, 2);
                MarkovChecker down = new MarkovChecker(3);
                Sample.row(down, 1, good, stay, 4 - stay - good);
                oneOther(down, 2, good, 4 - stay, 0);
            }
        }
    }

    /** State 1 leaves for the zero or the goal, once it leaves. */
    private static void oneOther(MarkovChecker m, int zero, int good, int leaving, int goal) {
        int node = until(m, 0b111, 1 << goal, UNBOUNDED);
        due.value(m, node, zero, 0, 1);
        due.value(m, node, 1, Sample.reduced(good, leaving), Sample.reduced(leaving, good));
        due.value(m, node, goal, 1, 1);
    }

    /** A walk 0, 1, 2, 3, 4 that stays half the time, so that each step on is a head of a coin. */
    private static void boundedSteps() {
        due.of("What it is", "The value at s is the exact probability of the paths");
        MarkovChecker m = new MarkovChecker(5);
        Sample.row(m, 0, 1, 1);
        Sample.row(m, 1, 0, 1, 1);
        Sample.row(m, 2, 0, 0, 1, 1);
        Sample.row(m, 3, 0, 0, 0, 1, 1);
        for (int k = 0; k <= 8; k++) {
            int free = until(m, 0b11111, 0b11000, k);
            for (int s = 0; s < 3; s++) {
                long heads = heads(k, 3 - s);
                due.value(m, free, s, Sample.reduced(heads, 1L << k), Sample.reduced(1L << k, heads));
            }
            due.value(m, free, 3, 1, 1);
            due.value(m, free, 4, 1, 1);
            oneOn(m, 0b11011, 0b11000, k, 0b11000);
        }
    }

    /** How many of the 2^k runs of k tosses have at least so many heads. */
    private static long heads(int k, int least) {
        long count = 0;
        for (int run = 0; run < 1 << k; run++) {
            if (Integer.bitCount(run) >= least) {
                count++;
            }
        }
        return count;
    }

    /** Eight steps through rows of total 4, of total 3, and of one total after the other. */
    private static void largeBoundedDenominators() {
        due.of("promise 14", "Unbounded denominators stay below 2^31 and bounded ones below 12^8.");
        MarkovChecker m = new MarkovChecker(4);
        Sample.row(m, 0, 3, 0, 1);
        Sample.row(m, 1, 0, 2, 1);
        Sample.row(m, 3, 1, 3);
        int node = until(m, 0b1111, 0b0100, 8);
        due.value(m, node, 0, 65536 - 6561, 65536);
        due.value(m, node, 1, 6561 - 256, 6561);
        // 1/4 (1 - (3/4)^7) + 3/4 (1 - (2/3)^7), over 4^8 * 3^6 when reduced.
        long den = 65536L * 729;
        long num = (16384 - 2187) * 729L + (2187 - 128) * 16384L;
        due.value(m, node, 3, Sample.reduced(num, den), Sample.reduced(den, num));
    }

    /**
     * State 0 goes to 1, 2 and 3 alike. 1 is in PSI though not in PHI; 2 is in neither; 3 is in PHI
     * and loops for ever; 4 reaches PSI surely, by way of 5; 6 is in PSI and leads to 2.
     */
    private static void unboundedSets() {
        due.of("promise 14", "on every other state s equals exactly the sum over t of (w(s,t)/d(s)) * value(t)");
        MarkovChecker m = new MarkovChecker(8);
        Sample.row(m, 0, 0, 1, 1, 1);
        Sample.row(m, 1, 0, 0, 1);
        Sample.row(m, 2, 0, 1);
        Sample.row(m, 3, 0, 0, 0, 4);
        Sample.row(m, 4, 0, 0, 0, 0, 3, 1);
        Sample.row(m, 5, 0, 0, 0, 0, 2, 0, 1);
        Sample.row(m, 6, 0, 0, 1, 2);
        Sample.row(m, 7, 1, 0, 0, 0, 1);
        int node = until(m, 0b1111_1001, 0b0100_0010, UNBOUNDED);
        due.value(m, node, 0, 1, 3);
        due.value(m, node, 1, 1, 1);
        due.value(m, node, 2, 0, 1);
        due.value(m, node, 3, 0, 1);
        due.value(m, node, 4, 1, 1);
        due.value(m, node, 5, 1, 1);
        due.value(m, node, 6, 1, 1);
        due.value(m, node, 7, 2, 3);
    }

    /** A gambler's ruin over all twelve states: weight 1 up and 1 to 3 down. */
    private static void ruin() {
        due.of("promise 14", "on every other state s equals exactly the sum over t of (w(s,t)/d(s)) * value(t)");
        for (int down = 1; down <= 3; down++) {
            MarkovChecker m = new MarkovChecker(12);
            for (int s = 1; s < 11; s++) {
                m.setWeight(s, s, 0);
                m.setWeight(s, s - 1, down);
                m.setWeight(s, s + 1, 1);
            }
            int node = until(m, 0xfff, 1 << 11, UNBOUNDED);
            long whole = upTo(down, 11);
            for (int s = 0; s < 12; s++) {
                long part = upTo(down, s);
                due.value(m, node, s, Sample.reduced(part, whole), Sample.reduced(whole, part));
            }
        }
    }

    /** 1 + base + base^2 + ..., with so many terms. */
    private static long upTo(int base, int terms) {
        long sum = 0;
        for (int i = 0; i < terms; i++) {
            sum = sum * base + 1;
        }
        return sum;
    }

    private static MarkovChecker denseWithEnd() {
        MarkovChecker m = dense(6);
        Sample.row(m, 5, 0, 0, 0, 0, 0, 1);
        return m;
    }

    private static int[] nodeOfEveryKind(MarkovChecker m) {
        int atom = Sample.atom(m, 2, 0b011011);
        int not = m.addNot(atom);
        int and = m.addAnd(atom, Sample.atom(m, 3, 0b110001));
        int compare = m.addCompare(m.addUntil(atom, not, 1), MarkovChecker.OP_GT, 1, 4);
        return new int[] {atom, not, and, compare};
    }

    private static int set(MarkovChecker m, int i) {
        int set = 0;
        for (int s = 0; s < m.stateCount(); s++) {
            set |= m.holds(i, s) ? 1 << s : 0;
        }
        return set;
    }

    /** Nodes of every kind as children, against atoms that are on at the same states. */
    private static void childrenOfEveryKind() {
        due.of("What it is", "Let PHI be the states where x holds and PSI the states where y holds.");
        for (int pair = 0; pair < 16; pair++) {
            for (int k : BOUNDS) {
                MarkovChecker m = denseWithEnd();
                int[] nodes = nodeOfEveryKind(m);
                int node = m.addUntil(nodes[pair / 4], nodes[pair % 4], k);
                due.same("check()", m.check(), OK);
                MarkovChecker plain = denseWithEnd();
                int same = until(plain, set(m, nodes[pair / 4]), set(m, nodes[pair % 4]), k);
                for (int s = 0; s < 6; s++) {
                    due.value(m, node, s, plain.probNum(same, s), plain.probDen(same, s));
                }
            }
        }
    }

    /** Ten states in a row that go on or fail: 4^10, the greatest denominator of an unbounded until. */
    private static void tenInARow() {
        due.of("promise 14", "Unbounded denominators stay below 2^31 and bounded ones below 12^8.");
        MarkovChecker m = new MarkovChecker(12);
        for (int s = 0; s < 10; s++) {
            m.setWeight(s, s, 0);
            m.setWeight(s, s + 1 == 10 ? 11 : s + 1, 3);
            m.setWeight(s, 10, 1);
        }
        int node = until(m, 0xfff, 1 << 11, UNBOUNDED);
        long num = 1;
        long den = 1;
        for (int s = 9; s >= 0; s--) {
            num *= 3;
            den *= 4;
            due.value(m, node, s, num, den);
        }
        due.value(m, node, 10, 0, 1);
        due.value(m, node, 11, 1, 1);
    }
}
