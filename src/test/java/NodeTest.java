import java.util.function.IntSupplier;

/** Promises 7 to 13: the formula table, clearFormulas and nodeKind. */
public final class NodeTest {
    private static final int OK = MarkovChecker.OK;
    private static final int ERR_ARG = MarkovChecker.ERR_ARG;
    private static final int ERR_FULL = MarkovChecker.ERR_FULL;
    private static final int UNTIL = 2;
    private static final int COMPARE = 3;
    private static final int[] FAR = {Integer.MIN_VALUE, -17, -2, 17, 100, Integer.MAX_VALUE};
    private static final Due due = new Due();

    public static void main(String[] args) {
        kindsAndIndices();
        atoms();
        wrongChildren();
        wrongBounds();
        wrongThresholds();
        fullTable();
        clearing();
        acceptedMakesNotValid();
        due.end();
    }

    /** Nodes 0 and 1 are atoms, 2 an until and 3 a comparison; state 0 moves to 0, 1, 2 alike. */
    private static MarkovChecker checked() {
        MarkovChecker m = new MarkovChecker(3);
        m.setWeight(0, 1, 1);
        m.setWeight(0, 2, 1);
        m.setLabel(1, 0, true);
        m.setLabel(2, 1, true);
        due.same("addAtom(4)", m.addAtom(4), 0);
        due.same("addAtom(0)", m.addAtom(0), 1);
        due.same("addUntil(0, 1, -1)", m.addUntil(0, 1, -1), UNTIL);
        due.same("addCompare(2, 0, 1, 2)", m.addCompare(UNTIL, MarkovChecker.OP_GE, 1, 2), COMPARE);
        due.same("check()", m.check(), OK);
        due.value(m, UNTIL, 0, 1, 2);
        due.truth(m, COMPARE, 0b011);
        return m;
    }

    private static void kindsAndIndices() {
        MarkovChecker m = checked();
        due.same("addNot(3)", m.addNot(3), 4);
        due.same("addAnd(4, 4)", m.addAnd(4, 4), 5);
        due.same("addAnd(0, 5)", m.addAnd(0, 5), 6);
        due.same("addNot(5)", m.addNot(5), 7);
        due.same("addNot(7)", m.addNot(7), 8);
        due.same("addUntil(3, 8, 8)", m.addUntil(3, 8, 8), 9);
        due.same("addUntil(6, 6, 0)", m.addUntil(6, 6, 0), 10);
        due.same("addCompare(9, 3, 0, 1)", m.addCompare(9, 3, 0, 1), 11);
        due.same("addCompare(9, 1, 1024, 1024)", m.addCompare(9, 1, 1024, 1024), 12);
        due.same("addAtom(3)", m.addAtom(3), 13);
        due.same("addAnd(11, 13)", m.addAnd(11, 13), 14);
        due.same("addNot(14)", m.addNot(14), 15);
        kindsAre(m, 1, 1, 4, 5, 2, 3, 3, 2, 2, 4, 4, 5, 5, 1, 3, 2);
        due.same("check()", m.check(), OK);
        kindsAre(m, 1, 1, 4, 5, 2, 3, 3, 2, 2, 4, 4, 5, 5, 1, 3, 2);
    }

    private static void kindsAre(MarkovChecker m, int... kinds) {
        for (int i = 0; i < 40; i++) {
            int want = i < kinds.length ? kinds[i] : MarkovChecker.KIND_NONE;
            due.same("nodeKind(" + i + ")", m.nodeKind(i), want);
        }
        int[] outside = {Integer.MIN_VALUE, -16, -1, 1 << 20, Integer.MAX_VALUE};
        for (int i : outside) {
            due.same("nodeKind(" + i + ")", m.nodeKind(i), MarkovChecker.KIND_NONE);
        }
    }

    private static void atoms() {
        MarkovChecker m = new MarkovChecker(5);
        for (int a = 0; a < 4; a++) {
            m.setLabel(a, a, true);
            m.setLabel((a + 2) % 5, a, true);
        }
        for (int a = 0; a <= 4; a++) {
            due.same("addAtom(" + a + ")", m.addAtom(a), a);
        }
        due.same("check()", m.check(), OK);
        for (int a = 0; a < 4; a++) {
            due.truth(m, a, 1 << a | 1 << (a + 2) % 5);
        }
        due.truth(m, 4, 0b11111);
        int[] outside = {Integer.MIN_VALUE, -2, -1, 5, 6, 31, 32, Integer.MAX_VALUE};
        for (int a : outside) {
            due.refused("addAtom(" + a + ")", m, () -> m.addAtom(a), ERR_ARG);
        }
    }

    private static void wrongChildren() {
        MarkovChecker m = checked();
        int[] notState = {Integer.MIN_VALUE, -1, UNTIL, 4, 5, 15, 16, Integer.MAX_VALUE};
        for (int x : notState) {
            refusedChild("addNot(x)", x, m, () -> m.addNot(x));
            refusedChild("addAnd(x, 0)", x, m, () -> m.addAnd(x, 0));
            refusedChild("addAnd(0, x)", x, m, () -> m.addAnd(0, x));
            refusedChild("addAnd(x, x)", x, m, () -> m.addAnd(x, x));
            refusedChild("addUntil(x, 0, -1)", x, m, () -> m.addUntil(x, 0, -1));
            refusedChild("addUntil(0, x, 3)", x, m, () -> m.addUntil(0, x, 3));
            refusedChild("addUntil(x, x, 0)", x, m, () -> m.addUntil(x, x, 0));
        }
        int[] notUntil = {Integer.MIN_VALUE, -1, 0, 1, COMPARE, 4, 15, 16, Integer.MAX_VALUE};
        for (int x : notUntil) {
            refusedChild("addCompare(x, 0, 1, 2)", x, m, () -> m.addCompare(x, 0, 1, 2));
        }
        MarkovChecker empty = new MarkovChecker(2);
        refusedChild("addNot(x)", 0, empty, () -> empty.addNot(0));
        refusedChild("addAnd(x, x)", 0, empty, () -> empty.addAnd(0, 0));
        refusedChild("addUntil(x, x, 0)", 0, empty, () -> empty.addUntil(0, 0, 0));
        refusedChild("addCompare(x, 0, 1, 2)", 0, empty, () -> empty.addCompare(0, 0, 1, 2));
    }

    private static void refusedChild(String call, int x, MarkovChecker m, IntSupplier add) {
        due.refused(call + " with " + x, m, add, ERR_ARG);
    }

    private static void wrongBounds() {
        MarkovChecker m = checked();
        for (int k : FAR) {
            due.refused("bound " + k, m, () -> m.addUntil(0, 1, k), ERR_ARG);
        }
        due.refused("bound 9", m, () -> m.addUntil(0, 1, 9), ERR_ARG);
        for (int k = -1; k <= 8; k++) {
            due.same("bound " + k, m.addUntil(0, 1, k), 5 + k);
        }
        due.same("check()", m.check(), OK);
        due.value(m, 4, 0, 1, 2);
        long power = 1;
        for (int k = 0; k <= 8; k++) {
            due.value(m, 5 + k, 0, (power - 1) / 2, power);
            power *= 3;
        }
    }

    private static void wrongThresholds() {
        MarkovChecker m = checked();
        int[] wrongOps = {Integer.MIN_VALUE, -1, 4, 5, Integer.MAX_VALUE};
        for (int op : wrongOps) {
            due.refused("op " + op, m, () -> m.addCompare(UNTIL, op, 1, 2), ERR_ARG);
        }
        int[] wrongDens = {Integer.MIN_VALUE, -2, -1, 0, 1025, 2048, Integer.MAX_VALUE};
        for (int den : wrongDens) {
            due.refused("0/" + den, m, () -> m.addCompare(UNTIL, 0, 0, den), ERR_ARG);
            due.refused("den/" + den, m, () -> m.addCompare(UNTIL, 0, den, den), ERR_ARG);
        }
        int[] wrongNums = {Integer.MIN_VALUE, -1, 3, 1024, Integer.MAX_VALUE};
        for (int num : wrongNums) {
            due.refused(num + "/2", m, () -> m.addCompare(UNTIL, 0, num, 2), ERR_ARG);
        }
        due.refused("1025/1024", m, () -> m.addCompare(UNTIL, 0, 1025, 1024), ERR_ARG);
        due.same("0/1", m.addCompare(UNTIL, 0, 0, 1), 4);
        due.same("1/1", m.addCompare(UNTIL, 1, 1, 1), 5);
        due.same("0/1024", m.addCompare(UNTIL, 2, 0, 1024), 6);
        due.same("1024/1024", m.addCompare(UNTIL, 3, 1024, 1024), 7);
        due.same("check()", m.check(), OK);
        due.truth(m, 4, 0b111);
        due.truth(m, 5, 0b000);
        due.truth(m, 6, 0b100);
        due.truth(m, 7, 0b101);
    }

    /** A full table is told before anything else that is wrong. */
    private static void fullTable() {
        MarkovChecker m = checked();
        for (int i = 4; i < 16; i++) {
            due.same("node " + i, m.addAtom(i % 5), i);
        }
        due.same("check()", m.check(), OK);
        int[] any = {Integer.MIN_VALUE, -1, 0, UNTIL, 15, 16, Integer.MAX_VALUE};
        for (int x : any) {
            due.refused("addAtom in full", m, () -> m.addAtom(x), ERR_FULL);
            due.refused("addNot in full", m, () -> m.addNot(x), ERR_FULL);
            due.refused("addAnd in full", m, () -> m.addAnd(x, 0), ERR_FULL);
            due.refused("addUntil in full", m, () -> m.addUntil(0, x, x), ERR_FULL);
            due.refused("addCompare in full", m, () -> m.addCompare(x, x, x, x), ERR_FULL);
        }
        due.refused("good addCompare in full", m, () -> m.addCompare(UNTIL, 0, 1, 2), ERR_FULL);
        due.refused("good addUntil in full", m, () -> m.addUntil(0, 1, -1), ERR_FULL);
    }

    private static void clearing() {
        MarkovChecker m = checked();
        String chain = Due.chain(m);
        due.accepted("clearFormulas()", m, UNTIL, () -> cleared(m), OK);
        kindsAre(m);
        due.same("chain after clearFormulas()", Due.chain(m), chain);
        due.same("holds after clearFormulas()", m.holds(0, 0), false);
        due.refused("an old child", m, () -> m.addNot(0), ERR_ARG);
        due.same("clearFormulas() again", cleared(m), OK);
        due.same("check() of nothing", m.check(), OK);
        due.same("holds of nothing", m.holds(0, 0), false);
        for (int i = 0; i < 16; i++) {
            due.same("index after clearFormulas()", m.addAtom(1), i);
        }
        due.same("full", m.addAtom(1), ERR_FULL);
        due.same("check()", m.check(), OK);
        due.truth(m, UNTIL, 0b100);
        due.same("no value of an atom", m.probDen(UNTIL, 0), 0L);
        cleared(m);
        due.same("index after the second clearFormulas()", m.addAtom(4), 0);
        due.same("kind after the second clearFormulas()", m.nodeKind(1), MarkovChecker.KIND_NONE);
        due.same("results after clearFormulas() and a node", m.holds(0, 0), false);
    }

    private static int cleared(MarkovChecker m) {
        m.clearFormulas();
        return OK;
    }

    private static void acceptedMakesNotValid() {
        MarkovChecker m = checked();
        due.accepted("addAtom", m, UNTIL, () -> m.addAtom(0), 4);
        due.accepted("addNot", m, UNTIL, () -> m.addNot(0), 5);
        due.accepted("addAnd", m, UNTIL, () -> m.addAnd(0, 1), 6);
        due.accepted("addUntil", m, UNTIL, () -> m.addUntil(0, 1, 1), 7);
        due.accepted("addCompare", m, UNTIL, () -> m.addCompare(UNTIL, 0, 1, 2), 8);
        due.same("holds of an old node", m.holds(0, 0), false);
        due.same("probNum of an old node", m.probNum(UNTIL, 1), 0L);
        due.same("check()", m.check(), OK);
        due.value(m, UNTIL, 0, 1, 2);
        due.truth(m, 5, 0b000);
        due.truth(m, 6, 0b010);
        due.value(m, 7, 0, 1, 3);
        due.truth(m, 8, 0b011);
    }
}
