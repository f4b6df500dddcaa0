/** Promises 5 and 6: setLabel and getLabels. */
public final class LabelTest {
    private static final int OK = MarkovChecker.OK;
    private static final int ERR_ARG = MarkovChecker.ERR_ARG;
    private static final Due due = new Due();

    public static void main(String[] args) {
        everyLabel(2);
        everyLabel(7);
        everyLabel(12);
        for (int n = 2; n <= 12; n++) {
            eachOnOrOff(n);
            wrongStates(n);
            leastAndGreatest(n);
            getOutside(n);
        }
        wrongLabels();
        bothWrong();
        sameSetting();
        newSetting();
        nothingElse();
        getRange();
        due.end();
    }

    /** Turns one label at a time and looks at all of them. */
    private static void everyLabel(int n) {
        due.of("promise 5", "turns label a of state s on when on is true and off when on is false");
        MarkovChecker m = new MarkovChecker(n);
        int[] want = new int[n];
        for (int step = 0; step < n * 40; step++) {
            int s = step * 5 % n;
            int a = step / 2 % 4;
            boolean on = step % 3 != 0;
            due.same("setLabel(" + s + ", " + a + ", " + on + ")", m.setLabel(s, a, on), OK);
            want[s] = on ? want[s] | 1 << a : want[s] & ~(1 << a);
            for (int t = 0; t < n; t++) {
                due.same("getLabels(" + t + ")", m.getLabels(t), want[t]);
            }
        }
    }

    /** Every label alone at every state alone, seen by getLabels and by the four atoms. */
    private static void eachOnOrOff(int n) {
        due.of("What it is", "Each state carries 4 labels, numbered 0..3, each on or off.");
        MarkovChecker m = new MarkovChecker(n);
        for (int a = 0; a < 4; a++) {
            m.addAtom(a);
        }
        for (int s = 0; s < n; s++) {
            for (int a = 0; a < 4; a++) {
                due.same("setLabel(" + s + ", " + a + ", true)", m.setLabel(s, a, true), OK);
                m.check();
                for (int t = 0; t < n; t++) {
                    due.same("getLabels(" + t + ")", m.getLabels(t), t == s ? 1 << a : 0);
                }
                for (int b = 0; b < 4; b++) {
                    due.truth(m, b, b == a ? 1 << s : 0);
                }
                due.same("setLabel(" + s + ", " + a + ", false)", m.setLabel(s, a, false), OK);
            }
        }
    }

    private static void refused(int n, int s, int a) {
        String call = "setLabel(" + s + ", " + a + ") of " + n;
        due.changesNothing(call + " on", () -> Sample.of(n), m -> m.setLabel(s, a, true), ERR_ARG);
        due.changesNothing(call + " off", () -> Sample.of(n), m -> m.setLabel(s, a, false), ERR_ARG);
    }

    private static void wrongStates(int n) {
        due.of("promise 5", "If s is not in 0..n-1");
        for (int s : Sample.outside(0, n - 1)) {
            refused(n, s, 0);
            refused(n, s, 3);
        }
    }

    /** At state 0 label 3 is on, at the last one label 0, so that turning off would show as well. */
    private static void wrongLabels() {
        due.of("promise 5", "a is not in 0..3, the answer is ERR_ARG and nothing changes");
        for (int a : Sample.outside(0, 3)) {
            refused(5, 0, a);
            refused(5, 4, a);
        }
    }

    private static void bothWrong() {
        due.of("promise 5", "If s is not in 0..n-1 or a is not in 0..3, the answer is ERR_ARG");
        int[] wrong = {Integer.MIN_VALUE, -1, 12, Integer.MAX_VALUE};
        for (int x : wrong) {
            refused(12, x, x);
            refused(12, x, 4);
        }
    }

    private static void leastAndGreatest(int n) {
        due.of("promise 5", "Otherwise the label is set, results become not valid");
        int[] states = {0, n - 1};
        int[] labels = {0, 3};
        for (int s : states) {
            for (int a : labels) {
                MarkovChecker m = new MarkovChecker(n);
                due.same("setLabel(" + s + ", " + a + ", true)", m.setLabel(s, a, true), OK);
                due.same("getLabels(" + s + ")", m.getLabels(s), 1 << a);
                due.same("setLabel(" + s + ", " + a + ", false)", m.setLabel(s, a, false), OK);
                due.same("getLabels(" + s + ")", m.getLabels(s), 0);
            }
        }
    }

    private static void same(int s, int a, boolean on) {
        String what = "setLabel(" + s + ", " + a + ", " + on + ") again";
        due.makesNotValid(what, () -> Sample.of(5), m -> m.setLabel(s, a, on), OK);
        MarkovChecker again = Sample.of(5);
        again.setLabel(s, a, on);
        due.alike(what, again, Sample.of(5));
    }

    private static void sameSetting() {
        due.of("promise 5", "results become not valid (even if the label already had that setting)");
        same(4, 0, true);
        same(0, 3, true);
        same(0, 0, false);
        same(4, 3, false);
        same(2, 1, false);
    }

    private static void newSetting() {
        due.of("promise 5", "Otherwise the label is set, results become not valid");
        due.makesNotValid("off", () -> Sample.of(5), m -> m.setLabel(4, 0, false), OK);
        due.makesNotValid("on", () -> Sample.of(5), m -> m.setLabel(0, 0, true), OK);
        due.makesNotValid("a label of no node", () -> Sample.of(5), m -> m.setLabel(2, 2, true), OK);
        MarkovChecker m = Sample.of(5);
        m.check();
        due.value(m, Sample.UNTIL, 0, 8, 9);
        m.setLabel(0, 0, true);
        due.same("check()", m.check(), OK);
        due.value(m, Sample.UNTIL, 0, 1, 1);
        due.truth(m, Sample.GOAL, 0b10001);
    }

    private static void nothingElse() {
        due.of("promise 5", "No other label, weight or node changes.");
        for (int n = 2; n <= 12; n++) {
            MarkovChecker m = Sample.filled(n, 16);
            String kinds = Due.kinds(m);
            due.same("setLabel(n - 1, 3, true)", m.setLabel(n - 1, 3, true), OK);
            due.same("setLabel(0, 3, false)", m.setLabel(0, 3, false), OK);
            for (int s = 0; s < n; s++) {
                due.same("getLabels(" + s + ")", m.getLabels(s), s == n - 1 ? 9 : 0);
                for (int t = 0; t < n; t++) {
                    due.same("getWeight(" + s + ", " + t + ")", m.getWeight(s, t), Sample.of(n).getWeight(s, t));
                }
            }
            due.same("kinds", Due.kinds(m), kinds);
        }
    }

    private static void getOutside(int n) {
        due.of("promise 6", "It answers -1 if s is not in 0..n-1.");
        for (int s : Sample.outside(0, n - 1)) {
            due.changesNothing("getLabels(" + s + ")", () -> Sample.of(n), m -> m.getLabels(s), -1);
        }
    }

    private static MarkovChecker withLabels(int s, int bits) {
        MarkovChecker m = Sample.of(12);
        for (int a = 0; a < 4; a++) {
            m.setLabel(s, a, (bits >> a & 1) == 1);
        }
        return m;
    }

    private static void getRange() {
        due.of("promise 6", "bit a (value 1 shifted left by a) is set iff label a is on, so the answer lies in 0..15");
        int[] states = {0, 6, 11};
        for (int s : states) {
            for (int bits = 0; bits <= 15; bits++) {
                int want = bits;
                due.changesNothing("labels " + bits, () -> withLabels(s, want), m -> m.getLabels(s), want);
            }
        }
        due.of("promise 6", "Nothing changes.");
        MarkovChecker all = Sample.of(12);
        for (int s = 0; s < 12; s++) {
            due.same("getLabels(" + s + ")", all.getLabels(s), s == 0 ? 8 : s == 11 ? 1 : 0);
        }
        due.alike("getLabels of all states", all, Sample.of(12));
    }
}
