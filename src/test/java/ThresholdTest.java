/** Promises 11 and 14: comparisons with thresholds on, just below and just above the value. */
public final class ThresholdTest {
    private static final int OK = MarkovChecker.OK;
    private static final int UNBOUNDED = MarkovChecker.UNBOUNDED;
    private static final int UNTIL = 2;
    private static final Due due = new Due();

    public static void main(String[] args) {
        fourOperators();
        equalToOneThird();
        nextToOneThird();
        zeroAndOne();
        everyDenominator();
        equalToGreatestDenominator();
        largeValues();
        boundedValues();
        due.end();
    }

    /** State 0 has the value good/(good + bad), state 1 has 1, and state 2 has 0. */
    private static MarkovChecker withValue(int good, int bad, int bound) {
        MarkovChecker m = new MarkovChecker(3);
        Sample.row(m, 0, 0, good, bad);
        int goal = Sample.atom(m, 0, 0b010);
        int all = m.addAtom(MarkovChecker.ATOM_TRUE);
        due.same("index of the until node", m.addUntil(all, goal, bound), UNTIL);
        return m;
    }

    private static void compared(MarkovChecker m, int op, int num, int den, int truth) {
        int node = m.addCompare(UNTIL, op, num, den);
        due.same("check()", m.check(), OK);
        due.truth(m, node, truth);
    }

    /** The states where it holds, for the operators GE, GT, LE and LT. */
    private static void allOperators(int bound, int num, int den, int... truths) {
        for (int op = 0; op < 4; op++) {
            compared(withValue(1, 2, bound), op, num, den, truths[op]);
        }
    }

    /** The values 1/2, 1 and 0 against 1/2: equal, above and below. */
    private static void fourOperators() {
        due.of("What it is", "where op is OP_GE (>=), OP_GT (>), OP_LE (<=) or OP_LT (<)");
        int[] bounds = {UNBOUNDED, 1};
        for (int bound : bounds) {
            compared(withValue(2, 2, bound), MarkovChecker.OP_GE, 1, 2, 0b011);
            compared(withValue(2, 2, bound), MarkovChecker.OP_GT, 1, 2, 0b010);
            compared(withValue(2, 2, bound), MarkovChecker.OP_LE, 1, 2, 0b101);
            compared(withValue(2, 2, bound), MarkovChecker.OP_LT, 1, 2, 0b100);
        }
    }

    private static void equalToOneThird() {
        due.of("promise 11", "The threshold num/den need not be reduced; the comparison uses its exact rational value");
        int[] bounds = {UNBOUNDED, 1, 8};
        for (int bound : bounds) {
            allOperators(bound, 1, 3, 0b011, 0b010, 0b101, 0b100);
            allOperators(bound, 2, 6, 0b011, 0b010, 0b101, 0b100);
            allOperators(bound, 340, 1020, 0b011, 0b010, 0b101, 0b100);
            allOperators(bound, 341, 1023, 0b011, 0b010, 0b101, 0b100);
        }
    }

    private static void nextToOneThird() {
        due.of("What it is", "holds at s iff value(p,s) op num/den, exactly");
        allOperators(UNBOUNDED, 341, 1024, 0b011, 0b011, 0b100, 0b100);
        allOperators(UNBOUNDED, 340, 1021, 0b011, 0b011, 0b100, 0b100);
        allOperators(UNBOUNDED, 342, 1024, 0b010, 0b010, 0b101, 0b101);
        allOperators(UNBOUNDED, 341, 1022, 0b010, 0b010, 0b101, 0b101);
    }

    /** The least and the greatest threshold, and the ones next to them. */
    private static void zeroAndOne() {
        due.of("promise 11", "the comparison uses its exact rational value, which lies in 0..1");
        int[] dens = {1, 2, 7, 1023, 1024};
        for (int den : dens) {
            allOperators(UNBOUNDED, 0, den, 0b111, 0b011, 0b100, 0b000);
            allOperators(UNBOUNDED, den, den, 0b010, 0b000, 0b111, 0b101);
        }
        allOperators(UNBOUNDED, 1, 1024, 0b011, 0b011, 0b100, 0b100);
        allOperators(UNBOUNDED, 1023, 1024, 0b010, 0b010, 0b101, 0b101);
    }

    /** Both neighbours of 2/3, and 2/3 itself where it is there, over every denominator. */
    private static void everyDenominator() {
        due.of("What it is", "holds at s iff value(p,s) op num/den, exactly");
        for (int den = 1; den <= 1024; den++) {
            MarkovChecker m = withValue(2, 1, UNBOUNDED);
            int below = 2 * den / 3;
            for (int num = below; num <= Math.min(den, below + 1); num++) {
                for (int op = 0; op < 4; op++) {
                    m.addCompare(UNTIL, op, num, den);
                }
            }
            due.same("check()", m.check(), OK);
            for (int i = 3; m.nodeKind(i) == MarkovChecker.KIND_COMPARE; i++) {
                int sign = Integer.compare(2 * den, 3 * (below + (i - 3) / 4));
                boolean[] want = {sign >= 0, sign > 0, sign <= 0, sign < 0};
                due.same("2/3 against a threshold over " + den, m.holds(i, 0), want[(i - 3) % 4]);
            }
        }
    }

    /** Five steps of 3/4 each are 243/1024 together, and five of 1/4 are 1/1024. */
    private static void equalToGreatestDenominator() {
        due.of("promise 11", "the comparison uses its exact rational value");
        for (int good = 1; good <= 3; good += 2) {
            MarkovChecker m = new MarkovChecker(7);
            for (int s = 0; s < 5; s++) {
                m.setWeight(s, s, 0);
                m.setWeight(s, s + 1, good);
                m.setWeight(s, 6, 4 - good);
            }
            int goal = Sample.atom(m, 0, 1 << 5);
            int all = m.addAtom(MarkovChecker.ATOM_TRUE);
            m.addUntil(all, goal, UNBOUNDED);
            int num = good == 1 ? 1 : 243;
            int ge = m.addCompare(UNTIL, MarkovChecker.OP_GE, num, 1024);
            int gt = m.addCompare(UNTIL, MarkovChecker.OP_GT, num, 1024);
            int le = m.addCompare(UNTIL, MarkovChecker.OP_LE, num, 1024);
            int lt = m.addCompare(UNTIL, MarkovChecker.OP_LT, num, 1024);
            due.same("check()", m.check(), OK);
            due.value(m, UNTIL, 0, num, 1024);
            due.truth(m, ge, 0b0111111);
            due.truth(m, gt, 0b0111110);
            due.truth(m, le, 0b1000001);
            due.truth(m, lt, 0b1000000);
        }
    }

    /** 44084269/47775744 lies between 944/1024 and 945/1024, and the cross products need a long. */
    private static void largeValues() {
        due.of("What it is", "holds at s iff value(p,s) op num/den, exactly");
        MarkovChecker m = new MarkovChecker(4);
        Sample.row(m, 0, 3, 0, 1);
        Sample.row(m, 1, 0, 2, 1);
        Sample.row(m, 3, 1, 3);
        int goal = Sample.atom(m, 0, 0b0100);
        int all = m.addAtom(MarkovChecker.ATOM_TRUE);
        m.addUntil(all, goal, 8);
        for (int num = 944; num <= 945; num++) {
            for (int op = 0; op < 4; op++) {
                m.addCompare(UNTIL, op, num, 1024);
            }
        }
        due.same("check()", m.check(), OK);
        due.value(m, UNTIL, 3, 44084269, 47775744);
        boolean[] want = {true, true, false, false, false, false, true, true};
        for (int i = 0; i < want.length; i++) {
            due.same("operator " + i % 4 + " with " + (944 + i / 4) + "/1024", m.holds(3 + i, 3), want[i]);
        }
    }

    /** A coin tossed eight times: 255/256 is 1020/1024. */
    private static void boundedValues() {
        due.of("promise 11", "The threshold num/den need not be reduced");
        int[][] cases = {
            // op, num, den, states where it holds
            {0, 1020, 1024, 0b11}, {1, 1020, 1024, 0b10}, {2, 1020, 1024, 0b01}, {3, 1020, 1024, 0b00},
            {0, 255, 256, 0b11}, {1, 255, 256, 0b10}, {2, 255, 256, 0b01}, {3, 255, 256, 0b00},
            {0, 1021, 1024, 0b10}, {1, 1019, 1024, 0b11}, {2, 1019, 1024, 0b00}, {3, 1021, 1024, 0b01},
        };
        for (int[] one : cases) {
            MarkovChecker m = new MarkovChecker(2);
            Sample.row(m, 0, 2, 2);
            int goal = Sample.atom(m, 0, 0b10);
            int all = m.addAtom(MarkovChecker.ATOM_TRUE);
            m.addUntil(all, goal, 8);
            compared(m, one[0], one[1], one[2], one[3]);
            due.value(m, UNTIL, 0, 255, 256);
        }
    }
}
