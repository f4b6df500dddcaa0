/** Promises 12 and 13: clearFormulas and nodeKind. */
public final class TableTest {
    private static final int OK = MarkovChecker.OK;
    private static final String DONE = "done";
    private static final Due due = new Due();

    public static void main(String[] args) {
        clears();
        clearsNothing();
        chainStays();
        resultsAreGone();
        tableIsAsNew();
        kindsAndIndices();
        kindOutside();
        kindOfNothing();
        kindOfRemoved();
        kindAfterRefusal();
        due.end();
    }

    private static String clear(MarkovChecker m) {
        m.clearFormulas();
        return DONE;
    }

    private static void kindsAre(MarkovChecker m, int... kinds) {
        for (int i = -1; i <= 17; i++) {
            int want = i >= 0 && i < kinds.length ? kinds[i] : MarkovChecker.KIND_NONE;
            due.same("nodeKind(" + i + ")", m.nodeKind(i), want);
        }
    }

    private static void clears() {
        due.of("promise 12", "removes all nodes (count becomes 0) and makes results not valid");
        for (int count = Sample.COUNT; count <= 16; count++) {
            MarkovChecker m = Sample.filled(4, count);
            m.clearFormulas();
            kindsAre(m);
            due.same("next index", m.addAtom(0), 0);
        }
        MarkovChecker one = new MarkovChecker(2);
        one.addAtom(0);
        one.clearFormulas();
        kindsAre(one);
        due.same("next index", one.addAtom(0), 0);
    }

    private static void clearsNothing() {
        due.of("promise 12", "It is always done, also when there were no nodes.");
        due.changesNothing("clearFormulas() with no nodes", () -> new MarkovChecker(3), m -> clear(m), DONE);
        MarkovChecker m = Sample.of(4);
        MarkovChecker twin = Sample.of(4);
        clear(m);
        clear(m);
        clear(twin);
        due.alike("clearFormulas() twice", m, twin);
    }

    private static void chainStays() {
        due.of("promise 12", "Weights, labels and n do not change.");
        for (int n = 2; n <= 12; n++) {
            MarkovChecker m = Sample.filled(n, 16);
            String chain = Due.chain(m);
            m.clearFormulas();
            due.same("chain after clearFormulas()", Due.chain(m), chain);
            m.check();
            m.clearFormulas();
            due.same("chain after check() and clearFormulas()", Due.chain(m), chain);
        }
    }

    /** Without nodes there is none to ask, so the same nodes are put back before asking. */
    private static void resultsAreGone() {
        due.of("promise 12", "and makes results not valid");
        due.makesNotValid("clearFormulas()", () -> Sample.of(4), m -> clear(m), DONE);
        due.makesNotValid("clearFormulas() of sixteen", () -> Sample.filled(4, 16), m -> clear(m), DONE);
        MarkovChecker m = new MarkovChecker(2);
        m.addAtom(MarkovChecker.ATOM_TRUE);
        m.addUntil(0, 0, 0);
        m.check();
        due.value(m, 1, 0, 1, 1);
        m.clearFormulas();
        m.addAtom(MarkovChecker.ATOM_TRUE);
        m.addUntil(0, 0, 0);
        due.value(m, 1, 0, 0, 0);
        due.truth(m, 0, 0);
        due.same("check()", m.check(), OK);
        due.value(m, 1, 0, 1, 1);
        due.truth(m, 0, 0b11);
    }

    /** Nothing of a removed node comes back with a new one at its place. */
    private static void tableIsAsNew() {
        due.of("promise 12", "removes all nodes (count becomes 0)");
        MarkovChecker m = new MarkovChecker(4);
        m.addAtom(3);
        m.addUntil(0, 0, 8);
        m.addCompare(1, MarkovChecker.OP_LT, 1, 3);
        m.addUntil(2, 0, MarkovChecker.UNBOUNDED);
        m.check();
        m.clearFormulas();
        MarkovChecker twin = new MarkovChecker(4);
        due.alike("clearFormulas()", m, twin);
        m.clearFormulas();
        m.setLabel(2, 1, true);
        due.same("an atom for an atom", m.addAtom(1), 0);
        due.same("an atom for an until", m.addAtom(MarkovChecker.ATOM_TRUE), 1);
        due.same("an until for a comparison", m.addUntil(1, 0, 0), 2);
        due.same("a comparison for an until", m.addCompare(2, MarkovChecker.OP_GE, 1, 1), 3);
        due.same("check()", m.check(), OK);
        due.truth(m, 0, 0b0100);
        due.truth(m, 1, 0b1111);
        due.value(m, 1, 0, 0, 0);
        due.value(m, 2, 2, 1, 1);
        due.value(m, 2, 3, 0, 1);
        due.truth(m, 2, 0);
        due.truth(m, 3, 0b0100);
        due.value(m, 3, 2, 0, 0);
    }

    private static void kindsAndIndices() {
        due.of("promise 13", "answers the kind of node i (KIND_ATOM, KIND_NOT, KIND_AND, KIND_UNTIL or KIND_COMPARE)");
        MarkovChecker m = Sample.of(3);
        due.same("addNot(3)", m.addNot(3), 6);
        due.same("addAnd(4, 4)", m.addAnd(4, 4), 7);
        due.same("addUntil(3, 7, 8)", m.addUntil(3, 7, 8), 8);
        due.same("addUntil(6, 6, 0)", m.addUntil(6, 6, 0), 9);
        due.same("addCompare(9, 3, 0, 1)", m.addCompare(9, 3, 0, 1), 10);
        due.same("addCompare(8, 1, 1024, 1024)", m.addCompare(8, 1, 1024, 1024), 11);
        due.same("addAtom(3)", m.addAtom(3), 12);
        due.same("addAnd(11, 12)", m.addAnd(11, 12), 13);
        due.same("addNot(13)", m.addNot(13), 14);
        due.same("addUntil(14, 0, -1)", m.addUntil(14, 0, -1), 15);
        int[] kinds = {1, 1, 4, 5, 2, 3, 2, 3, 4, 4, 5, 5, 1, 3, 2, 4};
        kindsAre(m, kinds);
        due.of("promise 13", "It answers the same whether results are valid or not.");
        due.same("check()", m.check(), OK);
        kindsAre(m, kinds);
        m.setLabel(0, 0, true);
        kindsAre(m, kinds);
    }

    private static void kindOutside() {
        due.of("promise 13", "KIND_NONE if i is not in 0..count-1");
        for (int count = Sample.COUNT; count <= 16; count += 5) {
            int nodes = count;
            for (int i : Sample.outside(0, count - 1)) {
                due.changesNothing("nodeKind(" + i + ")", () -> Sample.filled(4, nodes), m -> m.nodeKind(i), 0);
            }
        }
        due.of("promise 13", "Nothing changes.");
        due.changesNothing("nodeKind(0)", () -> Sample.of(4), m -> m.nodeKind(0), MarkovChecker.KIND_ATOM);
        due.changesNothing("nodeKind(2)", () -> Sample.of(4), m -> m.nodeKind(2), MarkovChecker.KIND_UNTIL);
        due.changesNothing("nodeKind(3)", () -> Sample.of(4), m -> m.nodeKind(3), MarkovChecker.KIND_COMPARE);
        due.changesNothing("nodeKind(4)", () -> Sample.of(4), m -> m.nodeKind(4), MarkovChecker.KIND_NOT);
        due.changesNothing("nodeKind(5)", () -> Sample.of(4), m -> m.nodeKind(5), MarkovChecker.KIND_AND);
        due.changesNothing("nodeKind(15)", () -> Sample.filled(4, 16), m -> m.nodeKind(15), MarkovChecker.KIND_ATOM);
    }

    private static void kindOfNothing() {
        due.of("promise 13", "KIND_NONE if i is not in 0..count-1");
        int[] indices = {Integer.MIN_VALUE, -1, 0, 1, 15, 16, Integer.MAX_VALUE};
        for (int i : indices) {
            due.changesNothing("nodeKind(" + i + ")", () -> new MarkovChecker(2), m -> m.nodeKind(i), 0);
        }
    }

    private static MarkovChecker cleared() {
        MarkovChecker m = Sample.filled(4, 16);
        m.clearFormulas();
        return m;
    }

    private static void kindOfRemoved() {
        due.of("promise 13", "KIND_NONE if i is not in 0..count-1");
        for (int i = 0; i < 16; i++) {
            int index = i;
            due.changesNothing("nodeKind of removed " + i, () -> cleared(), m -> m.nodeKind(index), 0);
        }
    }

    private static void kindAfterRefusal() {
        due.of("promise 13", "KIND_NONE if i is not in 0..count-1");
        MarkovChecker m = Sample.of(4);
        m.addAtom(5);
        m.addNot(Sample.UNTIL);
        m.addAnd(0, -1);
        m.addUntil(0, 1, 9);
        m.addCompare(Sample.UNTIL, 0, 2, 1);
        kindsAre(m, 1, 1, 4, 5, 2, 3);
    }
}
