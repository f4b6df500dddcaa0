/** Promises 15 and 16: holds, probNum and probDen, also with wrong arguments and no results. */
public final class ResultsTest {
    private static final int[] OUTSIDE = {Integer.MIN_VALUE, -16, -1, 16, 17, 192, Integer.MAX_VALUE};
    private static final int ATOM = 0;
    private static final int UNTIL = 1;
    private static final int COMPARE = 2;
    private static final int NOT = 3;
    private static final int AND = 4;
    private static final Due due = new Due();

    public static void main(String[] args) {
        MarkovChecker m = new MarkovChecker(3);
        m.setWeight(0, 1, 2);
        m.setWeight(0, 2, 1);
        m.setLabel(1, 0, true);
        m.addAtom(0);
        m.addUntil(ATOM, ATOM, 3);
        m.addCompare(UNTIL, MarkovChecker.OP_LE, 1, 1);
        m.addNot(ATOM);
        m.addAnd(COMPARE, NOT);
        m.addUntil(NOT, ATOM, MarkovChecker.UNBOUNDED);
        nothingIsKnown(m);
        due.same("check()", m.check(), MarkovChecker.OK);
        answers(m);
        wrongArguments(m);
        gettersChangeNothing(m);
        m.setLabel(2, 1, true);
        nothingIsKnown(m);
        refusedKeepsResults(m);
        due.end();
    }

    private static void answers(MarkovChecker m) {
        due.truth(m, ATOM, 0b010);
        due.truth(m, UNTIL, 0);
        due.truth(m, COMPARE, 0b111);
        due.truth(m, NOT, 0b101);
        due.truth(m, AND, 0b101);
        due.value(m, UNTIL, 0, 0, 1);
        due.value(m, UNTIL, 1, 1, 1);
        due.value(m, UNTIL, 2, 0, 1);
        due.value(m, 5, 0, 2, 3);
        due.value(m, 5, 1, 1, 1);
        due.value(m, 5, 2, 0, 1);
        int[] stateNodes = {ATOM, COMPARE, NOT, AND};
        for (int i : stateNodes) {
            for (int s = 0; s < 3; s++) {
                due.value(m, i, s, 0, 0);
            }
        }
    }

    private static void nothingIsKnown(MarkovChecker m) {
        for (int i = 0; i < 6; i++) {
            due.truth(m, i, 0);
            for (int s = 0; s < 3; s++) {
                due.value(m, i, s, 0, 0);
            }
        }
    }

    private static void wrongArguments(MarkovChecker m) {
        for (int x : OUTSIDE) {
            for (int s = -1; s <= 3; s++) {
                due.same("holds(" + x + ", " + s + ")", m.holds(x, s), false);
                due.value(m, x, s, 0, 0);
            }
            due.same("holds(x, x)", m.holds(x, x), false);
            due.value(m, x, x, 0, 0);
        }
        int[] states = {Integer.MIN_VALUE, -12, -1, 3, 4, 11, 12, 32, 33, Integer.MAX_VALUE};
        for (int s : states) {
            for (int i = 0; i <= 6; i++) {
                due.same("holds(" + i + ", " + s + ")", m.holds(i, s), false);
                due.value(m, i, s, 0, 0);
            }
        }
        due.same("holds(6, 0)", m.holds(6, 0), false);
        due.value(m, 6, 0, 0, 0);
    }

    private static void gettersChangeNothing(MarkovChecker m) {
        String before = Due.picture(m);
        m.stateCount();
        m.getWeight(0, 1);
        m.getLabels(1);
        m.nodeKind(1);
        m.holds(1, 1);
        m.probNum(1, 1);
        m.probDen(1, 1);
        due.same("picture after getters", Due.picture(m), before);
        answers(m);
    }

    /** Refused calls leave results that are valid valid, and those that are not as they are. */
    private static void refusedKeepsResults(MarkovChecker m) {
        refuseAll(m);
        nothingIsKnown(m);
        due.same("check()", m.check(), MarkovChecker.OK);
        refuseAll(m);
        answers(m);
        due.same("check()", m.check(), MarkovChecker.OK);
        answers(m);
    }

    private static void refuseAll(MarkovChecker m) {
        due.refused("setWeight", m, () -> m.setWeight(0, 0, 2), MarkovChecker.ERR_ROW);
        due.refused("setWeight", m, () -> m.setWeight(0, 0, -1), MarkovChecker.ERR_ARG);
        due.refused("setLabel", m, () -> m.setLabel(0, 4, true), MarkovChecker.ERR_ARG);
        due.refused("addAtom", m, () -> m.addAtom(5), MarkovChecker.ERR_ARG);
        due.refused("addNot", m, () -> m.addNot(UNTIL), MarkovChecker.ERR_ARG);
        due.refused("addAnd", m, () -> m.addAnd(ATOM, UNTIL), MarkovChecker.ERR_ARG);
        due.refused("addUntil", m, () -> m.addUntil(ATOM, NOT, 9), MarkovChecker.ERR_ARG);
        due.refused("addCompare", m, () -> m.addCompare(ATOM, 0, 1, 2), MarkovChecker.ERR_ARG);
    }
}
