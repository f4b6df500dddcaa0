/** Promises 1 and 2: construction, the fresh object and stateCount. */
public final class ConstructionTest {
    private static final int OK = MarkovChecker.OK;
    private static final int ERR_ROW = MarkovChecker.ERR_ROW;
    private static final Due due = new Due();

    public static void main(String[] args) {
        tooSmall();
        tooLarge();
        asTheyAre();
        neverChanges();
        for (int n = 2; n <= 12; n++) {
            statesAre(n);
            freshWeights(n);
            everyStateAbsorbing(n);
            everyRowTotalOne(n);
            freshLabels(n);
            noNodes(n);
            notValid(n);
        }
        clampedIsFreshToo();
        stateCountChangesNothing();
        objectsAreApart();
        due.end();
    }

    private static void gives(int argument, int n) {
        MarkovChecker m = new MarkovChecker(argument);
        due.same("stateCount of " + argument, m.stateCount(), n);
        due.same("last state of " + argument, m.getLabels(n - 1), 0);
        due.same("state after the last of " + argument, m.getLabels(n), -1);
    }

    private static void tooSmall() {
        due.of("promise 1", "any value below 2 (including every negative int and Integer.MIN_VALUE) gives n = 2");
        int[] small = {
            Integer.MIN_VALUE, Integer.MIN_VALUE + 1, -(1 << 30), -65536 + 7, -256 + 7, -13, -12, -7, -2, -1, 0, 1
        };
        for (int argument : small) {
            gives(argument, 2);
        }
    }

    private static void tooLarge() {
        due.of("promise 1", "any value above 12 (up to Integer.MAX_VALUE) gives n = 12");
        int[] large = {
            13, 14, 15, 16, 24, 100, 256 + 7, 65536 + 7, 1 << 30, Integer.MAX_VALUE - 1, Integer.MAX_VALUE
        };
        for (int argument : large) {
            gives(argument, 12);
        }
    }

    private static void asTheyAre() {
        due.of("promise 1", "values 2..12 are taken as they are");
        for (int n = 2; n <= 12; n++) {
            gives(n, n);
        }
    }

    /** Every call that takes a state, at all numbers around the states. */
    private static void statesAre(int n) {
        due.of("What it is", "The states are 0..n-1, with n fixed by the constructor (2 to 12).");
        MarkovChecker m = new MarkovChecker(n);
        m.addAtom(MarkovChecker.ATOM_TRUE);
        m.addUntil(0, 0, 0);
        due.same("check()", m.check(), OK);
        for (int s = -14; s <= 26; s++) {
            boolean state = s >= 0 && s < n;
            due.same("getLabels(" + s + ") of " + n, m.getLabels(s), state ? 0 : -1);
            due.same("getWeight(" + s + ", " + s + ") of " + n, m.getWeight(s, s), state ? 1 : -1);
            due.same("holds(0, " + s + ") of " + n, m.holds(0, s), state);
            due.same("probDen(1, " + s + ") of " + n, m.probDen(1, s), state ? 1L : 0L);
        }
        for (int s = -14; s <= 26; s++) {
            int code = s >= 0 && s < n ? OK : MarkovChecker.ERR_ARG;
            due.same("setLabel(" + s + ", 0, true) of " + n, m.setLabel(s, 0, true), code);
            due.same("setWeight(" + s + ", 0, 1) of " + n, m.setWeight(s, 0, 1), code);
            due.same("setWeight(0, " + s + ", 0) of " + n, m.setWeight(0, s, 0), code);
        }
    }

    private static void neverChanges() {
        due.of("promise 1", "n never changes afterwards");
        for (int n = 2; n <= 12; n++) {
            MarkovChecker m = Sample.filled(n, 16);
            due.same("stateCount after adding", m.stateCount(), n);
            m.check();
            due.same("stateCount after check()", m.stateCount(), n);
            m.setWeight(n, n, 1);
            m.setWeight(n - 1, 0, 4);
            m.setLabel(n, 0, true);
            m.addAtom(5);
            due.same("stateCount after refused calls", m.stateCount(), n);
            m.clearFormulas();
            due.same("stateCount after clearFormulas()", m.stateCount(), n);
            m.setWeight(n / 2, n / 2, 0);
            m.check();
            due.same("stateCount after check()", m.stateCount(), n);
            due.same("getWeight(n, n)", m.getWeight(n, n), -1);
        }
    }

    private static void freshWeights(int n) {
        due.of("promise 1", "The fresh object has w(s,s) = 1 and w(s,t) = 0 for t != s");
        MarkovChecker m = new MarkovChecker(n);
        for (int s = 0; s < n; s++) {
            for (int t = 0; t < n; t++) {
                due.same("fresh getWeight(" + s + ", " + t + ")", m.getWeight(s, t), s == t ? 1 : 0);
            }
        }
    }

    private static void everyStateAbsorbing(int n) {
        due.of("promise 1", "so every state is absorbing");
        for (int goal = 0; goal < n; goal++) {
            MarkovChecker m = new MarkovChecker(n);
            m.setLabel(goal, 2, true);
            m.addAtom(MarkovChecker.ATOM_TRUE);
            m.addAtom(2);
            m.addUntil(0, 1, MarkovChecker.UNBOUNDED);
            m.addUntil(0, 1, 8);
            due.same("check()", m.check(), OK);
            for (int s = 0; s < n; s++) {
                due.value(m, 2, s, s == goal ? 1 : 0, 1);
                due.value(m, 3, s, s == goal ? 1 : 0, 1);
            }
        }
    }

    private static void everyRowTotalOne(int n) {
        due.of("promise 1", "every row total is 1");
        for (int s = 0; s < n; s++) {
            MarkovChecker m = new MarkovChecker(n);
            due.same("4 beside the fresh row", m.setWeight(s, (s + 1) % n, 4), ERR_ROW);
            due.same("3 beside the fresh row", m.setWeight(s, (s + 1) % n, 3), OK);
        }
        due.same("check() of the fresh rows", new MarkovChecker(n).check(), OK);
    }

    private static void freshLabels(int n) {
        due.of("promise 1", "All labels of all states are off.");
        MarkovChecker m = new MarkovChecker(n);
        for (int s = 0; s < n; s++) {
            due.same("fresh getLabels(" + s + ")", m.getLabels(s), 0);
        }
        for (int a = 0; a < 4; a++) {
            m.addAtom(a);
        }
        due.same("check()", m.check(), OK);
        for (int a = 0; a < 4; a++) {
            due.truth(m, a, 0);
        }
    }

    private static void noNodes(int n) {
        due.of("promise 1", "There are no formula nodes (count is 0).");
        MarkovChecker m = new MarkovChecker(n);
        for (int i = -1; i <= 17; i++) {
            due.same("fresh nodeKind(" + i + ")", m.nodeKind(i), MarkovChecker.KIND_NONE);
        }
        due.same("fresh addNot(0)", m.addNot(0), MarkovChecker.ERR_ARG);
        for (int i = 0; i < 16; i++) {
            due.same("index of a node", m.addAtom(0), i);
        }
    }

    /** The first node, too, has no result before check, for the fresh object had none to keep. */
    private static void notValid(int n) {
        due.of("promise 1", "Results are not valid.");
        MarkovChecker m = new MarkovChecker(n);
        for (int nodes = 0; nodes <= 2; nodes++) {
            for (int i = 0; i < 4; i++) {
                due.truth(m, i, 0);
                for (int s = 0; s < n; s++) {
                    due.value(m, i, s, 0, 0);
                }
            }
            if (nodes == 0) {
                m.addAtom(MarkovChecker.ATOM_TRUE);
            } else {
                m.addUntil(0, 0, 0);
            }
        }
    }

    private static void clampedIsFreshToo() {
        due.of("promise 1", "sets n from states, clamped");
        due.alike("Integer.MIN_VALUE", new MarkovChecker(Integer.MIN_VALUE), new MarkovChecker(2));
        due.alike("1", new MarkovChecker(1), new MarkovChecker(2));
        due.alike("13", new MarkovChecker(13), new MarkovChecker(12));
        due.alike("Integer.MAX_VALUE", new MarkovChecker(Integer.MAX_VALUE), new MarkovChecker(12));
    }

    private static void stateCountChangesNothing() {
        due.of("promise 2", "answers n, always in 2..12. Nothing changes.");
        for (int n = 2; n <= 12; n++) {
            int states = n;
            due.changesNothing("stateCount()", () -> Sample.of(states), m -> m.stateCount(), n);
            due.changesNothing("fresh stateCount()", () -> new MarkovChecker(states), m -> m.stateCount(), n);
        }
    }

    private static void objectsAreApart() {
        due.of("promise 1", "The fresh object");
        MarkovChecker a = new MarkovChecker(3);
        MarkovChecker b = new MarkovChecker(3);
        a.setWeight(0, 1, 2);
        a.setLabel(1, 1, true);
        a.addAtom(1);
        a.check();
        due.alike("calls on another object", b, new MarkovChecker(3));
    }
}
