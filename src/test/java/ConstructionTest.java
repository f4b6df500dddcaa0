/** Promises 1 and 2: construction, the fresh object and stateCount. */
public final class ConstructionTest {
    private static final Due due = new Due();

    public static void main(String[] args) {
        int[] wanted = {
            Integer.MIN_VALUE, Integer.MIN_VALUE + 1, -13, -12, -2, -1, 0, 1, 2, 3, 4, 5, 6, 7, 8, 9,
            10, 11, 12, 13, 14, 100, 1 << 16, Integer.MAX_VALUE - 1, Integer.MAX_VALUE
        };
        for (int states : wanted) {
            int n = states < 2 ? 2 : states > 12 ? 12 : states;
            MarkovChecker m = new MarkovChecker(states);
            due.same("stateCount of " + states, m.stateCount(), n);
            fresh(m, n);
            absorbing(m, n);
            due.same("stateCount of " + states + " later", m.stateCount(), n);
        }
        objectsAreApart();
        due.end();
    }

    private static void fresh(MarkovChecker m, int n) {
        for (int s = 0; s < n; s++) {
            for (int t = 0; t < n; t++) {
                due.same("fresh getWeight(" + s + ", " + t + ")", m.getWeight(s, t), s == t ? 1 : 0);
            }
            due.same("fresh getLabels(" + s + ")", m.getLabels(s), 0);
        }
        due.same("getWeight(n, n)", m.getWeight(n, n), -1);
        for (int i = -1; i <= 17; i++) {
            due.same("fresh nodeKind(" + i + ")", m.nodeKind(i), MarkovChecker.KIND_NONE);
        }
        due.same("fresh holds(0, 0)", m.holds(0, 0), false);
        due.same("fresh probNum(0, 0)", m.probNum(0, 0), 0L);
        due.same("fresh probDen(0, 0)", m.probDen(0, 0), 0L);
    }

    /** In the fresh chain every state stays where it is, and every row may grow by 3. */
    private static void absorbing(MarkovChecker m, int n) {
        due.same("first index", m.addAtom(MarkovChecker.ATOM_TRUE), 0);
        due.same("holds before check", m.holds(0, 0), false);
        due.same("setLabel(n - 1, 2, true)", m.setLabel(n - 1, 2, true), MarkovChecker.OK);
        m.addAtom(2);
        m.addUntil(0, 1, MarkovChecker.UNBOUNDED);
        due.same("probDen before check", m.probDen(2, 0), 0L);
        due.same("check()", m.check(), MarkovChecker.OK);
        for (int s = 0; s < n; s++) {
            due.value(m, 2, s, s == n - 1 ? 1 : 0, 1);
        }
        for (int s = 0; s < n; s++) {
            due.same("row by 4", m.setWeight(s, (s + 1) % n, 4), MarkovChecker.ERR_ROW);
            due.same("row by 3", m.setWeight(s, (s + 1) % n, 3), MarkovChecker.OK);
        }
    }

    private static void objectsAreApart() {
        MarkovChecker a = new MarkovChecker(3);
        MarkovChecker b = new MarkovChecker(3);
        a.setWeight(0, 1, 2);
        a.setLabel(1, 1, true);
        a.addAtom(1);
        a.check();
        due.same("weight of the other object", b.getWeight(0, 1), 0);
        due.same("labels of the other object", b.getLabels(1), 0);
        due.same("nodes of the other object", b.nodeKind(0), MarkovChecker.KIND_NONE);
    }
}
