/** Promise 14: when check refuses, what it leaves alone, and the truth of state nodes. */
public final class CheckTest {
    private static final int OK = MarkovChecker.OK;
    private static final int ERR_ROW = MarkovChecker.ERR_ROW;
    private static final int UNBOUNDED = MarkovChecker.UNBOUNDED;
    private static final Due due = new Due();

    public static void main(String[] args) {
        for (int n = 2; n <= 12; n++) {
            oneEmptyRow(n);
            allRowsEmpty(n);
            noNodes(n);
        }
        everyTotal();
        emptyRowAfterResults();
        emptyRowWithNoNodes();
        noNodesLeft();
        leavesInputs();
        valid();
        checkAgain();
        emptyAndAll();
        connectives();
        nested();
        due.end();
    }

    private static MarkovChecker emptied(int n, int s) {
        MarkovChecker m = Sample.of(n);
        Sample.row(m, s);
        return m;
    }

    /** An empty row takes an accepted setWeight, so results are never valid when check refuses. */
    private static void oneEmptyRow(int n) {
        due.of("promise 14", "answers ERR_ROW if some state has row total 0; then nothing changes");
        for (int s = 0; s < n; s++) {
            int empty = s;
            due.changesNothing("check() of empty row " + s, () -> emptied(n, empty), m -> m.check(), ERR_ROW);
            MarkovChecker m = emptied(n, s);
            m.check();
            due.same("not valid", m.probDen(Sample.UNTIL, 0), 0L);
            due.same("not valid", m.holds(Sample.ALL, s), false);
            m.setWeight(s, n - 1, 1);
            due.same("check() of the mended row", m.check(), OK);
            due.value(m, Sample.UNTIL, s, 1, 1);
            due.same("holds", m.holds(Sample.ALL, s), true);
        }
    }

    private static MarkovChecker allEmptied(int n) {
        MarkovChecker m = Sample.of(n);
        for (int s = 0; s < n; s++) {
            Sample.row(m, s);
        }
        return m;
    }

    private static void allRowsEmpty(int n) {
        due.of("promise 14", "answers ERR_ROW if some state has row total 0; then nothing changes");
        due.changesNothing("check() of empty rows", () -> allEmptied(n), m -> m.check(), ERR_ROW);
        MarkovChecker m = allEmptied(n);
        for (int s = 0; s < n; s++) {
            due.same("check() with " + s + " rows mended", m.check(), ERR_ROW);
            m.setWeight(s, 0, 1);
        }
        due.same("check() with all rows mended", m.check(), OK);
    }

    /** The value of a move to the goal is w/d, for all totals that a row may have. */
    private static void everyTotal() {
        due.of("What it is", "When d(s) > 0, the chain moves from s to t with probability w(s,t)/d(s).");
        for (int total = 1; total <= 4; total++) {
            for (int w = 0; w <= total; w++) {
                MarkovChecker m = new MarkovChecker(3);
                Sample.row(m, 0, 0, w, total - w);
                int goal = Sample.atom(m, 0, 0b010);
                int all = m.addAtom(MarkovChecker.ATOM_TRUE);
                int soon = m.addUntil(all, goal, 1);
                int ever = m.addUntil(all, goal, UNBOUNDED);
                due.same("check()", m.check(), OK);
                due.value(m, soon, 0, Sample.reduced(w, total), Sample.reduced(total, w));
                due.value(m, ever, 0, Sample.reduced(w, total), Sample.reduced(total, w));
            }
        }
    }

    private static void emptyRowAfterResults() {
        due.of("promise 14", "answers ERR_ROW if some state has row total 0; then nothing changes");
        MarkovChecker m = Sample.of(5);
        m.check();
        due.value(m, Sample.UNTIL, 0, 8, 9);
        m.setWeight(3, 3, 0);
        due.same("check() of an empty row", m.check(), ERR_ROW);
        due.value(m, Sample.UNTIL, 0, 0, 0);
        due.truth(m, Sample.ALL, 0);
        due.same("check() of an empty row, again", m.check(), ERR_ROW);
        m.setWeight(3, 4, 1);
        due.value(m, Sample.UNTIL, 0, 0, 0);
        due.same("check() of the mended row", m.check(), OK);
        due.value(m, Sample.UNTIL, 0, 8, 9);
        due.value(m, Sample.UNTIL, 3, 1, 1);
    }

    private static MarkovChecker bareWithEmptyRow() {
        MarkovChecker m = new MarkovChecker(2);
        m.setWeight(1, 1, 0);
        return m;
    }

    private static void emptyRowWithNoNodes() {
        due.of("promise 14", "answers ERR_ROW if some state has row total 0; then nothing changes");
        due.changesNothing("check() with no nodes", () -> bareWithEmptyRow(), m -> m.check(), ERR_ROW);
    }

    /** Whether results are valid can't be asked without a node; a node added later has none yet. */
    private static void noNodes(int n) {
        due.of("promise 14", "With no nodes it still answers OK and makes results valid.");
        due.changesNothing("check() with no nodes", () -> new MarkovChecker(n), m -> m.check(), OK);
        MarkovChecker m = new MarkovChecker(n);
        due.same("check() with no nodes", m.check(), OK);
        due.same("nodeKind(0)", m.nodeKind(0), MarkovChecker.KIND_NONE);
        due.truth(m, 0, 0);
        due.value(m, 0, 0, 0, 0);
        m.addAtom(MarkovChecker.ATOM_TRUE);
        due.truth(m, 0, 0);
        due.same("check() with a node", m.check(), OK);
        due.truth(m, 0, (1 << n) - 1);
    }

    private static void noNodesLeft() {
        due.of("promise 14", "With no nodes it still answers OK and makes results valid.");
        MarkovChecker m = Sample.filled(4, 16);
        m.check();
        m.clearFormulas();
        due.same("check() after clearFormulas()", m.check(), OK);
        for (int i = 0; i < 16; i++) {
            due.truth(m, i, 0);
            due.value(m, i, 0, 0, 0);
        }
    }

    private static void leavesInputs() {
        due.of("promise 14", "Weights, labels and nodes are not changed by check.");
        for (int n = 2; n <= 12; n++) {
            MarkovChecker m = Sample.filled(n, 16);
            MarkovChecker twin = Sample.filled(n, 16);
            due.same("check()", m.check(), OK);
            due.same("chain after check()", Due.chain(m), Due.chain(twin));
            due.same("kinds after check()", Due.kinds(m), Due.kinds(twin));
            twin.check();
            due.alike("check()", m, twin);
        }
    }

    private static void valid() {
        due.of("promise 14", "every until node's exact value at every state, makes results valid and answers OK");
        MarkovChecker m = Sample.of(5);
        due.value(m, Sample.UNTIL, 0, 0, 0);
        due.same("check()", m.check(), OK);
        due.truth(m, Sample.ALL, 0b11111);
        due.truth(m, Sample.GOAL, 0b10000);
        due.value(m, Sample.UNTIL, 0, 8, 9);
        due.value(m, Sample.UNTIL, 1, 0, 1);
        due.value(m, Sample.UNTIL, 4, 1, 1);
        due.truth(m, Sample.COMPARE, 0b10001);
        due.truth(m, Sample.NOT, 0b01110);
        due.truth(m, Sample.AND, 0b10000);
    }

    /** Nothing of an earlier check is left in a later one. */
    private static void checkAgain() {
        due.of("promise 14", "stores every state node's truth at every state and every until node's exact value");
        MarkovChecker m = new MarkovChecker(4);
        Sample.row(m, 0, 0, 1, 1);
        Sample.row(m, 1, 1, 0, 1, 2);
        int goal = Sample.atom(m, 0, 0b1000);
        int all = m.addAtom(MarkovChecker.ATOM_TRUE);
        int until = m.addUntil(all, goal, UNBOUNDED);
        int compare = m.addCompare(until, MarkovChecker.OP_GE, 1, 2);
        due.same("check()", m.check(), OK);
        due.value(m, until, 0, 2, 7);
        due.value(m, until, 1, 4, 7);
        due.truth(m, compare, 0b1010);
        String first = Due.picture(m);
        due.same("check() with results valid", m.check(), OK);
        due.same("picture after check() again", Due.picture(m), first);
        m.setLabel(3, 0, false);
        m.setLabel(2, 0, true);
        due.same("check()", m.check(), OK);
        due.value(m, until, 0, 5, 7);
        due.value(m, until, 3, 0, 1);
        due.truth(m, compare, 0b0101);
    }

    private static void emptyAndAll() {
        due.of("What it is", "state node with child x; holds at s iff x does not hold at s");
        for (int n = 2; n <= 12; n++) {
            int every = (1 << n) - 1;
            MarkovChecker m = new MarkovChecker(n);
            int all = m.addAtom(MarkovChecker.ATOM_TRUE);
            int none = m.addNot(all);
            int back = m.addNot(none);
            int mixed = m.addAnd(all, none);
            int both = m.addAnd(all, back);
            int neither = m.addAnd(none, mixed);
            due.same("check()", m.check(), OK);
            due.truth(m, all, every);
            due.truth(m, none, 0);
            due.truth(m, back, every);
            due.truth(m, mixed, 0);
            due.truth(m, both, every);
            due.truth(m, neither, 0);
        }
    }

    private static void connectives() {
        due.of("What it is", "state node with children x and y; holds at s iff both x and y hold at s");
        MarkovChecker m = new MarkovChecker(12);
        int a = Sample.atom(m, 0, 0b1010_1010_1010);
        int b = Sample.atom(m, 3, 0b1100_1100_1100);
        int and = m.addAnd(a, b);
        int not = m.addNot(and);
        int self = m.addAnd(not, not);
        int none = m.addAnd(not, and);
        int back = m.addNot(not);
        due.same("check()", m.check(), OK);
        due.truth(m, a, 0b1010_1010_1010);
        due.truth(m, b, 0b1100_1100_1100);
        due.truth(m, and, 0b1000_1000_1000);
        due.truth(m, not, 0b0111_0111_0111);
        due.truth(m, self, 0b0111_0111_0111);
        due.truth(m, none, 0);
        due.truth(m, back, 0b1000_1000_1000);
    }

    /** Until over the comparison of another until. */
    private static void nested() {
        due.of("promise 14", "it evaluates nodes 0..count-1 in index order");
        MarkovChecker m = new MarkovChecker(5);
        Sample.row(m, 0, 0, 1, 1);
        Sample.row(m, 1, 0, 0, 0, 1, 1);
        Sample.row(m, 2, 0, 1, 0, 0, 3);
        int goal = Sample.atom(m, 0, 0b01000);
        int all = m.addAtom(MarkovChecker.ATOM_TRUE);
        int inner = m.addUntil(all, goal, UNBOUNDED);
        int likely = m.addCompare(inner, MarkovChecker.OP_GE, 1, 2);
        int outer = m.addUntil(all, likely, 1);
        int unlikely = m.addNot(likely);
        int safe = m.addUntil(unlikely, likely, UNBOUNDED);
        int sure = m.addCompare(outer, MarkovChecker.OP_GT, 1, 4);
        int both = m.addAnd(sure, unlikely);
        due.same("check()", m.check(), OK);
        due.value(m, inner, 0, 5, 16);
        due.value(m, inner, 1, 1, 2);
        due.value(m, inner, 2, 1, 8);
        due.truth(m, likely, 0b01010);
        due.value(m, outer, 0, 1, 2);
        due.value(m, outer, 2, 1, 4);
        due.value(m, safe, 0, 5, 8);
        due.value(m, safe, 2, 1, 4);
        due.truth(m, sure, 0b01011);
        due.truth(m, both, 0b00001);
    }
}
