/** Promises 3 and 4: setWeight and getWeight. */
public final class WeightTest {
    private static final int OK = MarkovChecker.OK;
    private static final int ERR_ARG = MarkovChecker.ERR_ARG;
    private static final int ERR_ROW = MarkovChecker.ERR_ROW;
    private static final Due due = new Due();

    public static void main(String[] args) {
        everyCell();
        for (int n = 2; n <= 12; n++) {
            everyPair(n);
            wrongStates(n);
            leastAndGreatest(n);
            getOutside(n);
        }
        wrongWeights();
        fullRow();
        oldWeightIsTakenOff();
        tooFullRow();
        argumentsBeforeRow();
        severalWrongArguments();
        refusedLeavesRoom();
        refusedKeepsResults();
        sameWeight();
        newWeight();
        emptyRow();
        otherCells();
        getRange();
        due.end();
    }

    /** Sets one cell at a time and looks at all of them. */
    private static void everyCell() {
        due.of("promise 3", "sets w(s,t) = w");
        for (int n = 2; n <= 12; n += 5) {
            MarkovChecker m = new MarkovChecker(n);
            int[][] want = new int[n][n];
            for (int s = 0; s < n; s++) {
                due.same("empty row " + s, m.setWeight(s, s, 0), OK);
            }
            for (int step = 0; step < n * n * 5; step++) {
                int s = step * 7 % n;
                int t = step / n * 5 % n;
                int w = step / 3 % 5;
                int total = -want[s][t] + w;
                for (int u = 0; u < n; u++) {
                    total += want[s][u];
                }
                int code = total > 4 ? ERR_ROW : OK;
                due.same("setWeight(" + s + ", " + t + ", " + w + ")", m.setWeight(s, t, w), code);
                if (code == OK) {
                    want[s][t] = w;
                }
                weightsAre(m, want);
            }
        }
    }

    private static void everyPair(int n) {
        due.of("What it is", "Each ordered pair (s,t), including s = t, has an integer weight w(s,t) in 0..4.");
        for (int s = 0; s < n; s++) {
            for (int t = 0; t < n; t++) {
                MarkovChecker m = new MarkovChecker(n);
                m.setWeight(s, s, 0);
                for (int w = -1; w <= 5; w++) {
                    int code = w >= 0 && w <= 4 ? OK : ERR_ARG;
                    due.same("setWeight(" + s + ", " + t + ", " + w + ")", m.setWeight(s, t, w), code);
                    due.same("getWeight(" + s + ", " + t + ")", m.getWeight(s, t), Math.max(0, Math.min(w, 4)));
                }
            }
        }
    }

    private static void weightsAre(MarkovChecker m, int[][] want) {
        for (int s = 0; s < want.length; s++) {
            for (int t = 0; t < want.length; t++) {
                due.same("getWeight(" + s + ", " + t + ")", m.getWeight(s, t), want[s][t]);
            }
        }
    }

    private static void wrongStates(int n) {
        for (int x : Sample.outside(0, n - 1)) {
            due.of("promise 3", "s not in 0..n-1 gives ERR_ARG");
            due.changesNothing("state " + x + " of " + n, () -> Sample.of(n), m -> m.setWeight(x, 0, 0), ERR_ARG);
            due.of("promise 3", "t not in 0..n-1 gives ERR_ARG");
            due.changesNothing("target " + x + " of " + n, () -> Sample.of(n), m -> m.setWeight(0, x, 0), ERR_ARG);
        }
    }

    private static void wrongWeights() {
        due.of("promise 3", "w not in 0..4 gives ERR_ARG");
        for (int w : Sample.outside(0, 4)) {
            due.changesNothing("weight " + w, () -> Sample.of(5), m -> m.setWeight(1, 2, w), ERR_ARG);
            due.changesNothing("weight " + w + " for 1", () -> Sample.of(5), m -> m.setWeight(1, 1, w), ERR_ARG);
        }
    }

    /** The corners of the chain, each with the least and the greatest weight. */
    private static void leastAndGreatest(int n) {
        due.of("promise 3", "Otherwise the weight is set, results become not valid, and the answer is OK");
        int[] ends = {0, n - 1};
        for (int s : ends) {
            for (int t : ends) {
                MarkovChecker m = new MarkovChecker(n);
                due.same("weight 0 at " + s + ", " + s, m.setWeight(s, s, 0), OK);
                due.same("weight 4 at " + s + ", " + t, m.setWeight(s, t, 4), OK);
                due.same("getWeight(" + s + ", " + t + ")", m.getWeight(s, t), 4);
                due.same("weight 0 at " + s + ", " + t, m.setWeight(s, t, 0), OK);
                due.same("getWeight(" + s + ", " + t + ")", m.getWeight(s, t), 0);
            }
        }
    }

    private static MarkovChecker withRow(int... weights) {
        MarkovChecker m = new MarkovChecker(5);
        m.setWeight(0, 0, 0);
        for (int t = 0; t < weights.length; t++) {
            due.same("row of weights", m.setWeight(0, t, weights[t]), OK);
        }
        m.addAtom(0);
        m.addAtom(MarkovChecker.ATOM_TRUE);
        due.same("index of the until node", m.addUntil(0, 1, 1), Sample.UNTIL);
        return m;
    }

    private static void fullRow() {
        due.of("What it is", "The row total d(s) = sum over t of w(s,t) is at most 4 at all times.");
        due.same("4 alone", withRow(0, 0, 0).setWeight(0, 4, 4), OK);
        due.same("3 beside 1", withRow(1).setWeight(0, 1, 3), OK);
        due.same("1 beside 3", withRow(3).setWeight(0, 4, 1), OK);
        due.same("2 beside 2", withRow(0, 2).setWeight(0, 0, 2), OK);
        due.same("a fourth 1", withRow(1, 1, 1).setWeight(0, 3, 1), OK);
        due.same("another row", withRow(1, 3).setWeight(1, 0, 3), OK);
    }

    private static void oldWeightIsTakenOff() {
        due.of("promise 3", "the row total of s after the change (d(s) minus the old w(s,t) plus w)");
        due.same("4 for 4", withRow(4).setWeight(0, 0, 4), OK);
        due.same("3 for 4", withRow(4).setWeight(0, 0, 3), OK);
        due.same("4 for 3", withRow(3).setWeight(0, 0, 4), OK);
        due.same("3 for 3 in a full row", withRow(1, 3).setWeight(0, 1, 3), OK);
        due.same("2 for 3 in a full row", withRow(1, 3).setWeight(0, 1, 2), OK);
        due.same("0 for 0 in a full row", withRow(1, 3).setWeight(0, 2, 0), OK);
        due.same("2 for 1 beside 2", withRow(2, 1).setWeight(0, 1, 2), OK);
    }

    private static void rowRefused(int t, int w, int... weights) {
        due.changesNothing("weight " + w + " at " + t, () -> withRow(weights), m -> m.setWeight(0, t, w), ERR_ROW);
    }

    private static void tooFullRow() {
        due.of("promise 3", "would exceed 4, ERR_ROW. On any refusal nothing changes");
        rowRefused(4, 1, 4);
        rowRefused(4, 4, 4);
        rowRefused(1, 4, 1);
        rowRefused(1, 3, 2);
        rowRefused(4, 1, 1, 1, 1, 1);
        rowRefused(0, 4, 3, 1);
        rowRefused(0, 3, 2, 2);
        rowRefused(3, 2, 1, 1, 1);
        rowRefused(3, 2, 1, 1, 1, 1);
    }

    private static void argumentRefused(String what, int s, int t, int w) {
        due.changesNothing(what, () -> withRow(1, 3), m -> m.setWeight(s, t, w), ERR_ARG);
    }

    private static void argumentsBeforeRow() {
        due.of("promise 3", "Conditions are examined in this order");
        argumentRefused("s before the row", -1, 0, 4);
        argumentRefused("s before the row", 5, 1, 4);
        argumentRefused("t before the row", 0, -1, 4);
        argumentRefused("t before the row", 0, 5, 4);
        argumentRefused("w before the row", 0, 0, 5);
        argumentRefused("w before the row", 0, 4, 5);
        argumentRefused("w before the row", 0, 1, Integer.MAX_VALUE);
        argumentRefused("w before the row", 0, 1, Integer.MIN_VALUE);
        argumentRefused("w before the row", 0, 1, -1);
        due.changesNothing("the row alone", () -> withRow(1, 3), m -> m.setWeight(0, 0, 4), ERR_ROW);
    }

    private static void severalWrongArguments() {
        due.of("promise 3", "Conditions are examined in this order");
        int[] wrong = {Integer.MIN_VALUE, -1, 5, Integer.MAX_VALUE};
        for (int x : wrong) {
            argumentRefused("s and t " + x, x, x, 1);
            argumentRefused("s and w " + x, x, 0, x);
            argumentRefused("t and w " + x, 0, x, x);
            argumentRefused("s, t and w " + x, x, x, x);
        }
    }

    private static void refusedLeavesRoom() {
        due.of("promise 3", "On any refusal nothing changes: no weight, no label, no node");
        MarkovChecker m = withRow(1, 2);
        due.same("2 more", m.setWeight(0, 2, 2), ERR_ROW);
        due.same("getWeight(0, 2)", m.getWeight(0, 2), 0);
        due.same("4 for 2", m.setWeight(0, 1, 4), ERR_ROW);
        due.same("getWeight(0, 1)", m.getWeight(0, 1), 2);
        due.same("the room left", m.setWeight(0, 2, 1), OK);
        due.same("no room left", m.setWeight(0, 3, 1), ERR_ROW);
    }

    private static void refusedKeepsResults() {
        due.of("promise 3", "and results keep their validity");
        MarkovChecker m = Sample.of(5);
        due.same("refused with results not valid", m.setWeight(0, 0, 3), ERR_ROW);
        due.value(m, Sample.UNTIL, 0, 0, 0);
        due.same("check()", m.check(), OK);
        int[][] refused = {{-1, 0, 0, ERR_ARG}, {0, 5, 0, ERR_ARG}, {0, 0, 5, ERR_ARG}, {0, 0, 3, ERR_ROW}};
        for (int[] one : refused) {
            due.same("refused with results valid", m.setWeight(one[0], one[1], one[2]), one[3]);
            due.value(m, Sample.UNTIL, 0, 8, 9);
            due.truth(m, Sample.COMPARE, 0b10001);
        }
    }

    private static void sameWeight() {
        due.of("promise 3", "this holds even when w equals the old weight");
        int[][] cells = {{0, 0, 1}, {0, 4, 2}, {4, 0, 3}, {0, 1, 0}, {3, 3, 1}};
        for (int[] cell : cells) {
            String what = "the same weight " + cell[2];
            due.makesNotValid(what, () -> Sample.of(5), m -> m.setWeight(cell[0], cell[1], cell[2]), OK);
            MarkovChecker again = Sample.of(5);
            again.setWeight(cell[0], cell[1], cell[2]);
            due.alike(what, again, Sample.of(5));
        }
    }

    private static void newWeight() {
        due.of("promise 3", "Otherwise the weight is set, results become not valid, and the answer is OK");
        due.makesNotValid("a weight on a new cell", () -> Sample.of(5), m -> m.setWeight(0, 1, 1), OK);
        due.makesNotValid("another weight", () -> Sample.of(5), m -> m.setWeight(0, 4, 3), OK);
        due.makesNotValid("no weight", () -> Sample.of(5), m -> m.setWeight(4, 0, 0), OK);
        MarkovChecker m = Sample.of(5);
        m.check();
        due.value(m, Sample.UNTIL, 0, 8, 9);
        m.setWeight(0, 4, 3);
        due.same("check()", m.check(), OK);
        due.value(m, Sample.UNTIL, 0, 15, 16);
    }

    private static void emptyRow() {
        due.of("promise 3", "A row total of 0 is allowed here (check refuses it).");
        due.makesNotValid("an empty row", () -> Sample.of(5), m -> m.setWeight(3, 3, 0), OK);
        for (int n = 2; n <= 12; n++) {
            for (int s = 0; s < n; s++) {
                MarkovChecker m = new MarkovChecker(n);
                due.same("0 for the last weight", m.setWeight(s, s, 0), OK);
                due.same("0 in an empty row", m.setWeight(s, (s + 1) % n, 0), OK);
                for (int t = 0; t < n; t++) {
                    due.same("getWeight of an empty row", m.getWeight(s, t), 0);
                }
                due.same("check() of an empty row", m.check(), ERR_ROW);
                due.same("4 in an empty row", m.setWeight(s, n - 1, 4), OK);
            }
        }
    }

    private static void otherCells() {
        due.of("promise 3", "Only w(s,t) changes; other weights, labels and nodes are untouched.");
        for (int n = 2; n <= 12; n++) {
            for (int s = 0; s < n; s++) {
                MarkovChecker m = Sample.filled(n, 16);
                String kinds = Due.kinds(m);
                int[][] want = new int[n][n];
                for (int u = 0; u < n; u++) {
                    want[u][u] = 1;
                }
                want[0][n - 1] = 2;
                want[n - 1][0] = 3;
                want[s][s] = 0;
                due.same("setWeight(" + s + ", " + s + ", 0)", m.setWeight(s, s, 0), OK);
                weightsAre(m, want);
                for (int u = 0; u < n; u++) {
                    due.same("labels of " + u, m.getLabels(u), u == 0 ? 8 : u == n - 1 ? 1 : 0);
                }
                due.same("kinds", Due.kinds(m), kinds);
            }
        }
    }

    private static void getOutside(int n) {
        due.of("promise 4", "it answers -1 if s or t is not in 0..n-1");
        for (int x : Sample.outside(0, n - 1)) {
            due.changesNothing("getWeight(" + x + ", 0)", () -> Sample.of(n), m -> m.getWeight(x, 0), -1);
            due.changesNothing("getWeight(0, " + x + ")", () -> Sample.of(n), m -> m.getWeight(0, x), -1);
            due.changesNothing("both " + x, () -> Sample.of(n), m -> m.getWeight(x, x), -1);
        }
        due.changesNothing("getWeight(n - 1, n)", () -> Sample.of(n), m -> m.getWeight(n - 1, n), -1);
        due.changesNothing("getWeight(1, -1)", () -> Sample.of(n), m -> m.getWeight(1, -1), -1);
    }

    private static void getRange() {
        due.of("promise 4", "answers w(s,t), a value in 0..4");
        MarkovChecker all = Sample.of(12);
        for (int s = 0; s < 12; s++) {
            for (int t = 0; t < 12; t++) {
                int want = s == 0 && t == 11 ? 2 : s == 11 && t == 0 ? 3 : s == t ? 1 : 0;
                due.same("getWeight(" + s + ", " + t + ")", all.getWeight(s, t), want);
            }
        }
        due.of("promise 4", "Nothing changes.");
        due.alike("getWeight of all pairs", all, Sample.of(12));
        due.changesNothing("getWeight(0, 0)", () -> Sample.of(12), m -> m.getWeight(0, 0), 1);
        due.changesNothing("getWeight(0, 11)", () -> Sample.of(12), m -> m.getWeight(0, 11), 2);
        due.changesNothing("getWeight(11, 0)", () -> Sample.of(12), m -> m.getWeight(11, 0), 3);
        due.changesNothing("getWeight(11, 11)", () -> Sample.of(12), m -> m.getWeight(11, 11), 1);
        due.changesNothing("getWeight(11, 10)", () -> Sample.of(12), m -> m.getWeight(11, 10), 0);
        due.changesNothing("the greatest weight", () -> withRow(4), m -> m.getWeight(0, 0), 4);
    }
}
