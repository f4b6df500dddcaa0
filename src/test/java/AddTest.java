import java.util.function.Function;

/** Promises 7 to 11: what the five calls that add a node accept and refuse. */
public final class AddTest {
    private static final int OK = MarkovChecker.OK;
    private static final int ERR_ARG = MarkovChecker.ERR_ARG;
    private static final int UNBOUNDED = MarkovChecker.UNBOUNDED;
    private static final int ALL = Sample.ALL;
    private static final int GOAL = Sample.GOAL;
    private static final int UNTIL = Sample.UNTIL;
    private static final int COMPARE = Sample.COMPARE;
    private static final int COUNT = Sample.COUNT;
    private static final int[] STATE_NODES = {ALL, GOAL, COMPARE, Sample.NOT, Sample.AND};
    private static final Due due = new Due();

    public static void main(String[] args) {
        wrongAtoms();
        rightAtoms();
        atomTrue();
        wrongChildOfNot();
        rightChildOfNot();
        wrongChildOfAnd();
        rightChildOfAnd();
        wrongChildOfUntil();
        wrongBound();
        rightBound();
        untilIsNoStateNode();
        wrongChildOfCompare();
        wrongOperator();
        wrongDenominator();
        wrongNumerator();
        rightThreshold();
        comparesItsOwnNode();
        severalWrong();
        ownIndex();
        noNodes();
        removedNodes();
        due.end();
    }

    private static void refused(String what, Function<MarkovChecker, Object> add) {
        due.changesNothing(what, () -> Sample.of(4), add, ERR_ARG);
    }

    private static void accepted(String what, int kind, Function<MarkovChecker, Object> add) {
        due.makesNotValid(what, () -> Sample.of(4), add, COUNT);
        MarkovChecker m = Sample.of(4);
        String chain = Due.chain(m);
        add.apply(m);
        due.same("kind after " + what, m.nodeKind(COUNT), kind);
        due.same("kind behind " + what, m.nodeKind(COUNT + 1), MarkovChecker.KIND_NONE);
        due.same("chain after " + what, Due.chain(m), chain);
        due.same("next index after " + what, m.addAtom(0), COUNT + 1);
    }

    private static void wrongAtoms() {
        due.of("promise 7", "if a is not in 0..4, ERR_ARG. On refusal nothing changes.");
        for (int a : Sample.outside(0, 4)) {
            refused("addAtom(" + a + ")", m -> m.addAtom(a));
        }
    }

    private static void rightAtoms() {
        due.of("promise 7", "Otherwise a node of kind KIND_ATOM with label a is appended at index count, "
            + "count grows by one, results become not valid, and the answer is the new index (0..15)");
        for (int a = 0; a <= 4; a++) {
            int label = a;
            accepted("addAtom(" + a + ")", MarkovChecker.KIND_ATOM, m -> m.addAtom(label));
        }
        due.of("What it is", "For a in 0..3 it holds at s iff label a of s is on");
        MarkovChecker m = new MarkovChecker(5);
        for (int a = 0; a < 4; a++) {
            m.setLabel(a, a, true);
            m.setLabel((a + 2) % 5, a, true);
            m.addAtom(a);
        }
        due.same("check()", m.check(), OK);
        for (int a = 0; a < 4; a++) {
            due.truth(m, a, 1 << a | 1 << (a + 2) % 5);
        }
    }

    private static void atomTrue() {
        due.of("promise 7", "a = ATOM_TRUE (4) gives the node that holds at every state.");
        for (int n = 2; n <= 12; n++) {
            MarkovChecker m = new MarkovChecker(n);
            m.addAtom(MarkovChecker.ATOM_TRUE);
            due.same("check() with all labels off", m.check(), OK);
            due.truth(m, 0, (1 << n) - 1);
            for (int s = 0; s < n; s++) {
                for (int a = 0; a < 4; a++) {
                    m.setLabel(s, a, true);
                }
            }
            due.same("check() with all labels on", m.check(), OK);
            due.truth(m, 0, (1 << n) - 1);
        }
    }

    private static void wrongChildOfNot() {
        due.of("promise 8", "An until node, a negative index or an index >= count is refused. "
            + "On refusal nothing changes.");
        refused("addNot(until)", m -> m.addNot(UNTIL));
        for (int x : Sample.outside(0, COUNT - 1)) {
            refused("addNot(" + x + ")", m -> m.addNot(x));
        }
    }

    private static void rightChildOfNot() {
        due.of("promise 8", "Otherwise a KIND_NOT node is appended at index count, results become not valid, "
            + "and the answer is the new index.");
        for (int x : STATE_NODES) {
            accepted("addNot(" + x + ")", MarkovChecker.KIND_NOT, m -> m.addNot(x));
            MarkovChecker m = Sample.of(4);
            m.addNot(x);
            m.check();
            for (int s = 0; s < 4; s++) {
                due.same("not " + x + " at " + s, m.holds(COUNT, s), !m.holds(x, s));
            }
        }
    }

    private static void wrongChildOfAnd() {
        due.of("promise 9", "x not an existing state node gives ERR_ARG");
        refused("addAnd(until, 0)", m -> m.addAnd(UNTIL, ALL));
        for (int x : Sample.outside(0, COUNT - 1)) {
            refused("addAnd(" + x + ", 0)", m -> m.addAnd(x, ALL));
        }
        due.of("promise 9", "y not an existing state node gives ERR_ARG");
        refused("addAnd(0, until)", m -> m.addAnd(ALL, UNTIL));
        for (int y : Sample.outside(0, COUNT - 1)) {
            refused("addAnd(0, " + y + ")", m -> m.addAnd(ALL, y));
        }
    }

    private static void rightChildOfAnd() {
        due.of("promise 9", "x may equal y.");
        for (int x : STATE_NODES) {
            accepted("addAnd(x, x) of " + x, MarkovChecker.KIND_AND, m -> m.addAnd(x, x));
            MarkovChecker m = Sample.of(4);
            m.addAnd(x, x);
            m.check();
            for (int s = 0; s < 4; s++) {
                due.same("and of " + x + " twice at " + s, m.holds(COUNT, s), m.holds(x, s));
            }
        }
        due.of("promise 9", "a KIND_AND node is appended, results become not valid, and the answer is the new index");
        for (int x : STATE_NODES) {
            for (int y : STATE_NODES) {
                accepted("addAnd(" + x + ", " + y + ")", MarkovChecker.KIND_AND, m -> m.addAnd(x, y));
                MarkovChecker m = Sample.of(4);
                m.addAnd(x, y);
                m.check();
                for (int s = 0; s < 4; s++) {
                    due.same(x + " and " + y + " at " + s, m.holds(COUNT, s), m.holds(x, s) && m.holds(y, s));
                }
            }
        }
    }

    private static void wrongChildOfUntil() {
        due.of("promise 10", "x not an existing state node gives ERR_ARG");
        refused("addUntil(until, 0, 1)", m -> m.addUntil(UNTIL, ALL, 1));
        for (int x : Sample.outside(0, COUNT - 1)) {
            refused("addUntil(" + x + ", 0, -1)", m -> m.addUntil(x, ALL, -1));
        }
        due.of("promise 10", "y not an existing state node gives ERR_ARG");
        refused("addUntil(0, until, 1)", m -> m.addUntil(ALL, UNTIL, 1));
        for (int y : Sample.outside(0, COUNT - 1)) {
            refused("addUntil(0, " + y + ", 8)", m -> m.addUntil(ALL, y, 8));
        }
    }

    private static void wrongBound() {
        due.of("promise 10", "bound neither UNBOUNDED (-1) nor in 0..8 gives ERR_ARG. On refusal nothing changes.");
        for (int k : Sample.outside(-1, 8)) {
            refused("bound " + k, m -> m.addUntil(ALL, GOAL, k));
        }
    }

    /** State 0 goes to the goal with 2/3 in each step. */
    private static void rightBound() {
        due.of("promise 10", "Otherwise a KIND_UNTIL node with left x, right y and that bound is appended, "
            + "results become not valid, and the answer is the new index.");
        long power = 1;
        for (int k = -1; k <= 8; k++) {
            int bound = k;
            accepted("bound " + k, MarkovChecker.KIND_UNTIL, m -> m.addUntil(ALL, GOAL, bound));
            MarkovChecker m = Sample.of(4);
            m.addUntil(ALL, GOAL, k);
            m.check();
            if (k == UNBOUNDED) {
                due.value(m, COUNT, 0, 1, 1);
            } else {
                due.value(m, COUNT, 0, power - 1, power);
                power *= 3;
            }
        }
        for (int x : STATE_NODES) {
            accepted("left " + x, MarkovChecker.KIND_UNTIL, m -> m.addUntil(x, GOAL, 0));
            accepted("right " + x, MarkovChecker.KIND_UNTIL, m -> m.addUntil(ALL, x, -1));
            accepted("both " + x, MarkovChecker.KIND_UNTIL, m -> m.addUntil(x, x, 8));
        }
    }

    private static MarkovChecker endsWithUntil() {
        MarkovChecker m = Sample.of(4);
        m.addUntil(ALL, ALL, 0);
        return m;
    }

    private static void untilIsNoStateNode() {
        due.of("promise 10", "The new node is a probability node, not a state node.");
        int fresh = COUNT;
        due.changesNothing("addNot(new)", () -> endsWithUntil(), m -> m.addNot(fresh), ERR_ARG);
        due.changesNothing("addAnd(new, 0)", () -> endsWithUntil(), m -> m.addAnd(fresh, ALL), ERR_ARG);
        due.changesNothing("addAnd(0, new)", () -> endsWithUntil(), m -> m.addAnd(ALL, fresh), ERR_ARG);
        due.changesNothing("addUntil(new, 0)", () -> endsWithUntil(), m -> m.addUntil(fresh, ALL, 1), ERR_ARG);
        due.changesNothing("addUntil(0, new)", () -> endsWithUntil(), m -> m.addUntil(ALL, fresh, 1), ERR_ARG);
        MarkovChecker m = endsWithUntil();
        m.check();
        due.truth(m, fresh, 0);
        due.value(m, fresh, 0, 1, 1);
        due.same("addCompare(new)", m.addCompare(fresh, 0, 1, 1), COUNT + 1);
    }

    private static void wrongChildOfCompare() {
        due.of("promise 11", "p not an existing node of kind UNTIL gives ERR_ARG");
        for (int p : STATE_NODES) {
            refused("addCompare of state node " + p, m -> m.addCompare(p, 0, 1, 2));
        }
        for (int p : Sample.outside(0, COUNT - 1)) {
            refused("addCompare(" + p + ")", m -> m.addCompare(p, 0, 1, 2));
        }
    }

    private static void wrongOperator() {
        due.of("promise 11", "op not in 0..3 gives ERR_ARG");
        for (int op : Sample.outside(0, 3)) {
            refused("op " + op, m -> m.addCompare(UNTIL, op, 1, 2));
        }
    }

    private static void wrongDenominator() {
        due.of("promise 11", "den not in 1..1024 gives ERR_ARG");
        for (int den : Sample.outside(1, 1024)) {
            refused("0/" + den, m -> m.addCompare(UNTIL, 0, 0, den));
            refused("1/" + den, m -> m.addCompare(UNTIL, 0, 1, den));
            refused(den + "/" + den, m -> m.addCompare(UNTIL, 0, den, den));
        }
    }

    private static void wrongNumerator() {
        due.of("promise 11", "num not in 0..den gives ERR_ARG. On refusal nothing changes.");
        int[] dens = {1, 2, 3, 1023, 1024};
        for (int den : dens) {
            for (int num : Sample.outside(0, den)) {
                refused(num + "/" + den, m -> m.addCompare(UNTIL, 0, num, den));
            }
        }
    }

    private static void rightThreshold() {
        due.of("promise 11", "Otherwise a KIND_COMPARE node over p with op and threshold num/den is appended, "
            + "results become not valid, and the answer is the new index.");
        int[] dens = {1, 2, 3, 1023, 1024};
        for (int op = 0; op <= 3; op++) {
            int which = op;
            for (int den : dens) {
                accepted("0/" + den, MarkovChecker.KIND_COMPARE, m -> m.addCompare(UNTIL, which, 0, den));
                accepted("1/" + den, MarkovChecker.KIND_COMPARE, m -> m.addCompare(UNTIL, which, 1, den));
                accepted(den + "/" + den, MarkovChecker.KIND_COMPARE, m -> m.addCompare(UNTIL, which, den, den));
            }
        }
    }

    /** Three until nodes whose values at state 0 are 0, 2/3 and 1. */
    private static void comparesItsOwnNode() {
        due.of("What it is", "state node over probability node p with comparison op and threshold num/den");
        MarkovChecker m = Sample.of(4);
        int now = m.addUntil(ALL, GOAL, 0);
        int soon = m.addUntil(ALL, GOAL, 1);
        int ever = m.addUntil(ALL, GOAL, UNBOUNDED);
        int overNow = m.addCompare(now, MarkovChecker.OP_GE, 2, 3);
        int overSoon = m.addCompare(soon, MarkovChecker.OP_LE, 2, 3);
        int overEver = m.addCompare(ever, MarkovChecker.OP_GT, 2, 3);
        int overSoonToo = m.addCompare(soon, MarkovChecker.OP_LT, 2, 3);
        due.same("check()", m.check(), OK);
        due.truth(m, overNow, 0b1000);
        due.truth(m, overSoon, 0b0111);
        due.truth(m, overEver, 0b1001);
        due.truth(m, overSoonToo, 0b0110);
    }

    private static void severalWrong() {
        due.of("promises 9 to 11", "Conditions in order");
        int[] wrong = {Integer.MIN_VALUE, -2, COUNT, 9, Integer.MAX_VALUE};
        for (int x : wrong) {
            refused("addAnd(x, x) of " + x, m -> m.addAnd(x, x));
            refused("addUntil(x, x, 0) of " + x, m -> m.addUntil(x, x, 0));
            refused("addUntil(x, 0, 9) of " + x, m -> m.addUntil(x, ALL, 9));
            refused("addUntil(0, x, -2) of " + x, m -> m.addUntil(ALL, x, -2));
            refused("addUntil(x, x, -2) of " + x, m -> m.addUntil(x, x, -2));
            refused("addCompare(x, 4, 1, 2) of " + x, m -> m.addCompare(x, 4, 1, 2));
            refused("addCompare(x, 0, 1, 0) of " + x, m -> m.addCompare(x, 0, 1, 0));
            refused("addCompare(x, 0, 3, 2) of " + x, m -> m.addCompare(x, 0, 3, 2));
            refused("addCompare(x, x, x, x) of " + x, m -> m.addCompare(x, x, x, x));
        }
        refused("addAnd(until, until)", m -> m.addAnd(UNTIL, UNTIL));
        refused("addUntil(until, until, 9)", m -> m.addUntil(UNTIL, UNTIL, 9));
        refused("op and num", m -> m.addCompare(UNTIL, -1, 3, 2));
        refused("op and den", m -> m.addCompare(UNTIL, 4, 0, 0));
        refused("op, num and den", m -> m.addCompare(UNTIL, 4, -1, 1025));
        refused("num and den", m -> m.addCompare(UNTIL, 0, 1026, 1025));
        refused("num and den below", m -> m.addCompare(UNTIL, 0, -2, -1));
    }

    private static void ownIndex() {
        due.of("What it is", "Children always have smaller indices than their parent.");
        refused("addNot of itself", m -> m.addNot(COUNT));
        refused("addAnd of itself", m -> m.addAnd(COUNT, COUNT));
        refused("addUntil of itself", m -> m.addUntil(ALL, COUNT, UNBOUNDED));
        refused("addCompare of itself", m -> m.addCompare(COUNT, 0, 1, 2));
    }

    private static void noNodes() {
        due.of("What it is", "An *existing state node* is an index in 0..count-1 whose kind is KIND_ATOM, "
            + "KIND_NOT, KIND_AND or KIND_COMPARE.");
        int[] indices = {-1, 0, 1, 15, 16};
        for (int x : indices) {
            fromNothing("addNot", x, m -> m.addNot(x));
            fromNothing("addAnd", x, m -> m.addAnd(x, x));
            fromNothing("addUntil", x, m -> m.addUntil(x, x, -1));
            fromNothing("addCompare", x, m -> m.addCompare(x, 0, 0, 1));
        }
    }

    private static void fromNothing(String call, int x, Function<MarkovChecker, Object> add) {
        due.changesNothing(call + " of " + x + " with no nodes", () -> new MarkovChecker(3), add, ERR_ARG);
    }

    private static MarkovChecker cleared() {
        MarkovChecker m = Sample.filled(4, 16);
        m.check();
        m.clearFormulas();
        return m;
    }

    private static void removedNodes() {
        due.of("What it is", "An *existing until node* is an index in 0..count-1 whose kind is KIND_UNTIL.");
        due.changesNothing("addNot", () -> cleared(), m -> m.addNot(0), ERR_ARG);
        due.changesNothing("addAnd", () -> cleared(), m -> m.addAnd(1, 0), ERR_ARG);
        due.changesNothing("addUntil", () -> cleared(), m -> m.addUntil(0, 1, 8), ERR_ARG);
        due.changesNothing("addCompare", () -> cleared(), m -> m.addCompare(UNTIL, 0, 1, 2), ERR_ARG);
    }
}
