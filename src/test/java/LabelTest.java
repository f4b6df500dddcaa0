/** Promises 5 and 6: setLabel and getLabels. */
public final class LabelTest {
    private static final int[] OUTSIDE = {Integer.MIN_VALUE, -32, -1, 4, 5, 12, 32, Integer.MAX_VALUE};
    private static final Due due = new Due();

    public static void main(String[] args) {
        everyLabel(2);
        everyLabel(7);
        everyLabel(12);
        wrongArguments();
        acceptedMakesNotValid();
        due.end();
    }

    /** Turns one label at a time and looks at all of them. */
    private static void everyLabel(int n) {
        MarkovChecker m = new MarkovChecker(n);
        int[] want = new int[n];
        for (int step = 0; step < n * 40; step++) {
            int s = step * 5 % n;
            int a = step / 2 % 4;
            boolean on = step % 3 != 0;
            due.same("setLabel(" + s + ", " + a + ", " + on + ")", m.setLabel(s, a, on), MarkovChecker.OK);
            want[s] = on ? want[s] | 1 << a : want[s] & ~(1 << a);
            for (int t = 0; t < n; t++) {
                due.same("getLabels(" + t + ")", m.getLabels(t), want[t]);
            }
        }
        for (int s = 0; s < n; s++) {
            for (int a = 0; a < 4; a++) {
                m.setLabel(s, a, true);
            }
            due.same("all labels of " + s, m.getLabels(s), 15);
            m.setLabel(s, 1, false);
            due.same("all labels of " + s + " but 1", m.getLabels(s), 13);
            due.same("weight of " + s, m.getWeight(s, s), 1);
        }
    }

    private static MarkovChecker checked() {
        MarkovChecker m = new MarkovChecker(4);
        m.setWeight(0, 1, 1);
        m.setLabel(1, 3, true);
        m.addAtom(MarkovChecker.ATOM_TRUE);
        m.addAtom(3);
        m.addUntil(0, 1, 1);
        due.same("check()", m.check(), MarkovChecker.OK);
        due.value(m, 2, 0, 1, 2);
        return m;
    }

    private static void wrongArguments() {
        MarkovChecker m = checked();
        for (int x : OUTSIDE) {
            due.refused("on at state " + x, m, () -> m.setLabel(x, 0, true), MarkovChecker.ERR_ARG);
            due.refused("off at state " + x, m, () -> m.setLabel(x, 3, false), MarkovChecker.ERR_ARG);
            due.refused("label " + x + " on", m, () -> m.setLabel(0, x, true), MarkovChecker.ERR_ARG);
            due.refused("label " + x + " off", m, () -> m.setLabel(1, x, false), MarkovChecker.ERR_ARG);
            due.refused("both " + x, m, () -> m.setLabel(x, x, true), MarkovChecker.ERR_ARG);
            due.refused("getLabels(" + x + ")", m, () -> m.getLabels(x), -1);
        }
        due.value(m, 2, 0, 1, 2);
    }

    private static void acceptedMakesNotValid() {
        MarkovChecker m = checked();
        due.accepted("on again", m, 2, () -> m.setLabel(1, 3, true), MarkovChecker.OK);
        due.accepted("off again", m, 2, () -> m.setLabel(0, 0, false), MarkovChecker.OK);
        due.accepted("on", m, 2, () -> m.setLabel(0, 3, true), MarkovChecker.OK);
        due.same("check()", m.check(), MarkovChecker.OK);
        due.value(m, 2, 0, 1, 1);
        due.accepted("off", m, 2, () -> m.setLabel(0, 3, false), MarkovChecker.OK);
        due.same("weights stay", m.getWeight(0, 1), 1);
        due.same("nodes stay", m.nodeKind(2), MarkovChecker.KIND_UNTIL);
        due.same("check()", m.check(), MarkovChecker.OK);
        due.value(m, 2, 0, 1, 2);
    }
}
