/** Promises 3 and 4: setWeight and getWeight. */
public final class WeightTest {
    private static final int[] OUTSIDE = {Integer.MIN_VALUE, -12, -1, 5, 6, 12, 144, Integer.MAX_VALUE};
    private static final Due due = new Due();

    public static void main(String[] args) {
        everyCell();
        rowLimit();
        wrongArguments();
        orderOfConditions();
        acceptedMakesNotValid();
        due.end();
    }

    /** Sets one cell at a time and looks at all of them. */
    private static void everyCell() {
        for (int n = 2; n <= 12; n += 5) {
            MarkovChecker m = new MarkovChecker(n);
            int[][] want = new int[n][n];
            for (int s = 0; s < n; s++) {
                due.same("empty row " + s, m.setWeight(s, s, 0), MarkovChecker.OK);
            }
            for (int step = 0; step < n * n * 5; step++) {
                int s = step * 7 % n;
                int t = step / n * 5 % n;
                int w = step / 3 % 5;
                int total = -want[s][t] + w;
                for (int u = 0; u < n; u++) {
                    total += want[s][u];
                }
                int code = total > 4 ? MarkovChecker.ERR_ROW : MarkovChecker.OK;
                due.same("setWeight(" + s + ", " + t + ", " + w + ")", m.setWeight(s, t, w), code);
                if (code == MarkovChecker.OK) {
                    want[s][t] = w;
                }
                weightsAre(m, want);
            }
        }
    }

    private static void weightsAre(MarkovChecker m, int[][] want) {
        for (int s = 0; s < want.length; s++) {
            for (int t = 0; t < want.length; t++) {
                due.same("getWeight(" + s + ", " + t + ")", m.getWeight(s, t), want[s][t]);
            }
        }
    }

    private static void rowLimit() {
        MarkovChecker m = new MarkovChecker(5);
        due.same("3 beside 1", m.setWeight(0, 1, 3), MarkovChecker.OK);
        due.refused("a fifth", m, () -> m.setWeight(0, 2, 1), MarkovChecker.ERR_ROW);
        due.refused("one more", m, () -> m.setWeight(0, 1, 4), MarkovChecker.ERR_ROW);
        due.same("0 in a full row", m.setWeight(0, 2, 0), MarkovChecker.OK);
        due.same("the old weight in a full row", m.setWeight(0, 1, 3), MarkovChecker.OK);
        due.same("less", m.setWeight(0, 1, 2), MarkovChecker.OK);
        due.same("the room made", m.setWeight(0, 4, 1), MarkovChecker.OK);
        due.same("other rows have their own room", m.setWeight(1, 0, 3), MarkovChecker.OK);
        due.same("0 on the diagonal", m.setWeight(2, 2, 0), MarkovChecker.OK);
        due.same("4 alone", m.setWeight(2, 0, 4), MarkovChecker.OK);
        due.same("getWeight(2, 0)", m.getWeight(2, 0), 4);
        due.same("4 for 4", m.setWeight(2, 0, 4), MarkovChecker.OK);
    }

    private static MarkovChecker checked() {
        MarkovChecker m = new MarkovChecker(5);
        m.setWeight(0, 1, 2);
        m.setWeight(0, 2, 1);
        m.setLabel(1, 0, true);
        m.addAtom(MarkovChecker.ATOM_TRUE);
        m.addAtom(0);
        m.addUntil(0, 1, MarkovChecker.UNBOUNDED);
        due.same("check()", m.check(), MarkovChecker.OK);
        due.value(m, 2, 0, 2, 3);
        return m;
    }

    private static void wrongArguments() {
        MarkovChecker m = checked();
        for (int x : OUTSIDE) {
            due.refused("state " + x, m, () -> m.setWeight(x, 0, 0), MarkovChecker.ERR_ARG);
            due.refused("target " + x, m, () -> m.setWeight(0, x, 0), MarkovChecker.ERR_ARG);
            due.refused("weight " + x, m, () -> m.setWeight(1, 0, x), MarkovChecker.ERR_ARG);
            due.refused("getWeight(" + x + ", 0)", m, () -> m.getWeight(x, 0), -1);
            due.refused("getWeight(0, " + x + ")", m, () -> m.getWeight(0, x), -1);
            due.refused("getWeight(x, x)", m, () -> m.getWeight(x, x), -1);
        }
        due.refused("5 in a full row", m, () -> m.setWeight(0, 3, 5), MarkovChecker.ERR_ARG);
        due.refused("row of 5", m, () -> m.setWeight(0, 3, 1), MarkovChecker.ERR_ROW);
        due.refused("row of 5 in place", m, () -> m.setWeight(0, 1, 3), MarkovChecker.ERR_ROW);
        due.value(m, 2, 0, 2, 3);
    }

    /** A row that would be too full is told only when the arguments are in order. */
    private static void orderOfConditions() {
        MarkovChecker m = checked();
        due.refused("t before the row", m, () -> m.setWeight(0, 5, 4), MarkovChecker.ERR_ARG);
        due.refused("s before the row", m, () -> m.setWeight(-1, 1, 4), MarkovChecker.ERR_ARG);
        due.refused("w before the row", m, () -> m.setWeight(0, 1, 9), MarkovChecker.ERR_ARG);
        due.refused("the row", m, () -> m.setWeight(0, 1, 4), MarkovChecker.ERR_ROW);
    }

    private static void acceptedMakesNotValid() {
        MarkovChecker m = checked();
        due.accepted("the same weight", m, 2, () -> m.setWeight(0, 1, 2), MarkovChecker.OK);
        due.accepted("a new weight", m, 2, () -> m.setWeight(0, 1, 1), MarkovChecker.OK);
        due.same("labels stay", m.getLabels(1), 1);
        due.same("nodes stay", m.nodeKind(2), MarkovChecker.KIND_UNTIL);
        due.same("check()", m.check(), MarkovChecker.OK);
        due.value(m, 2, 0, 1, 2);
        due.accepted("an empty row", m, 2, () -> m.setWeight(3, 3, 0), MarkovChecker.OK);
    }
}
