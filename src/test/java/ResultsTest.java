import java.math.BigInteger;
import java.util.function.Supplier;

/** Promises 15 and 16, and when results are valid: holds, probNum and probDen. */
public final class ResultsTest {
    private static final int OK = MarkovChecker.OK;
    private static final int ALL = Sample.ALL;
    private static final int UNTIL = Sample.UNTIL;
    private static final int COUNT = Sample.COUNT;
    private static final int[] STATE_NODES = {ALL, Sample.GOAL, Sample.COMPARE, Sample.NOT, Sample.AND};
    private static final Due due = new Due();

    public static void main(String[] args) {
        for (int n = 2; n <= 12; n++) {
            holdsAtEnds(n);
            statesOutside(n);
        }
        notValid();
        bothZero();
        indicesOutside();
        everyOtherBroken();
        holdsOfUntil();
        probOfStateNode();
        zeroAndOne();
        reduced();
        neverZeroDenominator();
        lastSuccessfulCheck();
        everyAcceptedCall();
        gettersChangeNothing();
        readingChangesNothing();
        refusedKeepsResults();
        due.end();
    }

    private static MarkovChecker checked(int n, int count) {
        MarkovChecker m = Sample.filled(n, count);
        due.same("check()", m.check(), OK);
        return m;
    }

    /** holds is to answer false, probNum and probDen 0, with results valid and with not. */
    private static void nothing(String what, Supplier<MarkovChecker> make, int i, int s) {
        String at = "(" + i + ", " + s + ") " + what;
        due.changesNothing("holds" + at, make, m -> m.holds(i, s), false);
        due.changesNothing("probNum" + at, make, m -> m.probNum(i, s), 0L);
        due.changesNothing("probDen" + at, make, m -> m.probDen(i, s), 0L);
    }

    /** The first and the last node, at the first and the last state. */
    private static void holdsAtEnds(int n) {
        due.of("promise 15", "answers true iff results are valid, i is an existing state node, s is in 0..n-1, "
            + "and node i holds at s according to the last successful check");
        MarkovChecker m = checked(n, 16);
        due.same("first node at the first state", m.holds(0, 0), true);
        due.same("first node at the last state", m.holds(0, n - 1), true);
        due.same("last node at the first state", m.holds(15, 0), false);
        due.same("last node at the last state", m.holds(15, n - 1), true);
        due.truth(m, 14, (1 << n) - 1);
        due.of("promise 16", "answers the numerator and probDen(i, s) the denominator of the reduced value "
            + "of until node i at state s");
        due.value(m, UNTIL, 0, 8, 9);
        due.value(m, UNTIL, n - 1, 1, 1);
    }

    private static void statesOutside(int n) {
        due.of("promises 15 and 16", "s outside 0..n-1");
        for (int s : Sample.outside(0, n - 1)) {
            nothing("of " + n, () -> Sample.of(n), ALL, s);
            nothing("of " + n, () -> Sample.of(n), UNTIL, s);
        }
        nothing("of " + n, () -> Sample.of(n), Sample.NOT, n);
        nothing("of " + n, () -> Sample.of(n), Sample.AND, n);
        nothing("of " + n, () -> Sample.of(n), Sample.COMPARE, n);
    }

    private static void notValid() {
        due.of("promises 15 and 16", "results not valid");
        MarkovChecker m = Sample.filled(5, 16);
        for (int i = 0; i < 16; i++) {
            due.truth(m, i, 0);
            for (int s = 0; s < 5; s++) {
                due.value(m, i, s, 0, 0);
            }
        }
    }

    /** Both with results not valid and with results valid, where only the last two cases are left. */
    private static void bothZero() {
        due.of("promise 16", "Both answer 0 if results are not valid, i is not an existing until node, "
            + "or s is not in 0..n-1.");
        MarkovChecker m = Sample.of(5);
        for (int round = 0; round < 2; round++) {
            for (int i = -2; i <= 17; i++) {
                for (int s = -2; s <= 13; s++) {
                    boolean value = round == 1 && i == UNTIL && s >= 0 && s < 5;
                    due.same("probNum(" + i + ", " + s + ") > 0", m.probNum(i, s) > 0, value && (s == 0 || s == 4));
                    due.same("probDen(" + i + ", " + s + ") > 0", m.probDen(i, s) > 0, value);
                    due.same("one below 0", m.probNum(i, s) < 0 || m.probDen(i, s) < 0, false);
                }
            }
            due.same("check()", m.check(), OK);
        }
    }

    private static void indicesOutside() {
        due.of("promises 15 and 16", "i negative, i >= count");
        for (int i : Sample.outside(0, COUNT - 1)) {
            nothing("with six nodes", () -> Sample.of(5), i, 0);
            nothing("with six nodes", () -> Sample.of(5), i, 4);
        }
        for (int i : Sample.outside(0, 15)) {
            nothing("in a full table", () -> Sample.filled(12, 16), i, 0);
            nothing("in a full table", () -> Sample.filled(12, 16), i, 11);
        }
        for (int i = 0; i < 3; i++) {
            nothing("with no nodes", () -> new MarkovChecker(3), i, 0);
        }
    }

    private static void everyOtherBroken() {
        due.of("promises 15 and 16", "It answers false in every other case");
        int[] wrong = {Integer.MIN_VALUE, -1, 16, Integer.MAX_VALUE};
        for (int i : wrong) {
            for (int s : wrong) {
                nothing("both wrong", () -> Sample.of(5), i, s);
            }
        }
    }

    private static void holdsOfUntil() {
        due.of("promise 15", "i an until node");
        for (int state = 0; state < 5; state++) {
            int s = state;
            due.changesNothing("holds of an until node", () -> Sample.of(5), m -> m.holds(UNTIL, s), false);
        }
    }

    private static void probOfStateNode() {
        due.of("promise 16", "i is not an existing until node");
        for (int i : STATE_NODES) {
            for (int state = 0; state < 5; state++) {
                int s = state;
                due.changesNothing("probNum of node " + i, () -> Sample.of(5), m -> m.probNum(i, s), 0L);
                due.changesNothing("probDen of node " + i, () -> Sample.of(5), m -> m.probDen(i, s), 0L);
            }
        }
    }

    /** Values that come out as 0 and 1 by counting steps, not only on S0 and S1. */
    private static void zeroAndOne() {
        due.of("promise 16", "value 0 is given as 0/1 and value 1 as 1/1");
        int[] bounds = {MarkovChecker.UNBOUNDED, 0, 1, 8};
        for (int bound : bounds) {
            MarkovChecker m = new MarkovChecker(4);
            Sample.row(m, 0, 0, 3, 0, 1);
            Sample.row(m, 2, 2, 0, 2);
            int goal = Sample.atom(m, 0, 0b1010);
            int all = m.addAtom(MarkovChecker.ATOM_TRUE);
            int none = m.addNot(all);
            int until = m.addUntil(all, goal, bound);
            int never = m.addUntil(all, none, bound);
            int always = m.addUntil(none, all, bound);
            due.same("check()", m.check(), OK);
            due.value(m, until, 0, bound == 0 ? 0 : 1, 1);
            due.value(m, until, 1, 1, 1);
            for (int s = 0; s < 4; s++) {
                due.value(m, never, s, 0, 1);
                due.value(m, always, s, 1, 1);
            }
        }
    }

    private static void reduced() {
        due.of("promise 16", "Otherwise probDen answers a value >= 1, probNum a value in 0..probDen, "
            + "the two have greatest common divisor 1");
        for (int w = 1; w <= 2; w++) {
            for (int bound = -1; bound <= 8; bound++) {
                MarkovChecker m = new MarkovChecker(3);
                Sample.row(m, 0, w, 2 - w, 2);
                Sample.row(m, 1, 1, w, 1);
                int goal = Sample.atom(m, 0, 0b100);
                int all = m.addAtom(MarkovChecker.ATOM_TRUE);
                int until = m.addUntil(all, goal, bound);
                due.same("check()", m.check(), OK);
                for (int s = 0; s < 3; s++) {
                    inLowestTerms(m.probNum(until, s), m.probDen(until, s));
                }
            }
        }
        MarkovChecker half = new MarkovChecker(3);
        Sample.row(half, 0, 0, 2, 2);
        int goal = Sample.atom(half, 0, 0b100);
        int all = half.addAtom(MarkovChecker.ATOM_TRUE);
        int soon = half.addUntil(all, goal, 8);
        int ever = half.addUntil(all, goal, MarkovChecker.UNBOUNDED);
        due.same("check()", half.check(), OK);
        due.value(half, soon, 0, 1, 2);
        due.value(half, ever, 0, 1, 2);
    }

    private static void inLowestTerms(long num, long den) {
        due.same("denominator " + den + " is at least 1", den >= 1, true);
        due.same("numerator " + num + " is in 0.." + den, num >= 0 && num <= den, true);
        BigInteger divisor = BigInteger.valueOf(num).gcd(BigInteger.valueOf(den));
        due.same("divisor of " + num + "/" + den, divisor, BigInteger.ONE);
    }

    private static void neverZeroDenominator() {
        due.of("promise 16", "with results valid and i an existing until node, probDen(i,0) is never 0");
        for (int n = 2; n <= 12; n++) {
            MarkovChecker m = new MarkovChecker(n);
            m.setLabel(0, 1, true);
            m.addAtom(0);
            m.addAtom(1);
            m.addAtom(MarkovChecker.ATOM_TRUE);
            for (int i = 3; i < 16; i++) {
                m.addUntil(i % 3, i / 3 % 3, i % 10 - 1);
            }
            due.same("check()", m.check(), OK);
            for (int i = 3; i < 16; i++) {
                for (int s = 0; s < n; s++) {
                    due.same("probDen(" + i + ", " + s + ") is 1", m.probDen(i, s), 1L);
                }
            }
        }
    }

    private static void lastSuccessfulCheck() {
        due.of("promises 15 and 16", "the last successful check");
        MarkovChecker m = checked(5, COUNT);
        due.value(m, UNTIL, 0, 8, 9);
        due.truth(m, Sample.GOAL, 0b10000);
        m.setLabel(1, 0, true);
        due.value(m, UNTIL, 1, 0, 0);
        due.same("check()", m.check(), OK);
        due.value(m, UNTIL, 1, 1, 1);
        due.truth(m, Sample.GOAL, 0b10010);
        m.setWeight(2, 2, 0);
        due.same("check() of an empty row", m.check(), MarkovChecker.ERR_ROW);
        due.value(m, UNTIL, 1, 0, 0);
        due.truth(m, Sample.GOAL, 0);
    }

    private static void everyAcceptedCall() {
        due.of("What it is", "Every accepted call of setWeight, setLabel, addAtom, addNot, addAnd, addUntil, "
            + "addCompare and every call of clearFormulas makes results not valid, even if nothing differs.");
        due.makesNotValid("setWeight", () -> Sample.of(5), m -> m.setWeight(1, 1, 1), OK);
        due.makesNotValid("setLabel", () -> Sample.of(5), m -> m.setLabel(1, 1, false), OK);
        due.makesNotValid("addAtom", () -> Sample.of(5), m -> m.addAtom(0), COUNT);
        due.makesNotValid("addNot", () -> Sample.of(5), m -> m.addNot(0), COUNT);
        due.makesNotValid("addAnd", () -> Sample.of(5), m -> m.addAnd(0, 1), COUNT);
        due.makesNotValid("addUntil", () -> Sample.of(5), m -> m.addUntil(0, 1, 1), COUNT);
        due.makesNotValid("addCompare", () -> Sample.of(5), m -> m.addCompare(UNTIL, 0, 1, 2), COUNT);
        due.makesNotValid("clearFormulas", () -> Sample.of(5), m -> cleared(m), 0);
    }

    private static int cleared(MarkovChecker m) {
        m.clearFormulas();
        return m.nodeKind(0);
    }

    private static void gettersChangeNothing() {
        due.of("What it is", "The getters stateCount, getWeight, getLabels, nodeKind, holds, probNum and probDen "
            + "never change anything.");
        due.changesNothing("stateCount()", () -> Sample.of(5), m -> m.stateCount(), 5);
        due.changesNothing("getWeight(0, 4)", () -> Sample.of(5), m -> m.getWeight(0, 4), 2);
        due.changesNothing("getLabels(0)", () -> Sample.of(5), m -> m.getLabels(0), 8);
        due.changesNothing("nodeKind(2)", () -> Sample.of(5), m -> m.nodeKind(UNTIL), MarkovChecker.KIND_UNTIL);
        MarkovChecker m = checked(5, COUNT);
        MarkovChecker twin = checked(5, COUNT);
        for (int round = 0; round < 3; round++) {
            due.same("holds(0, 4)", m.holds(ALL, 4), true);
            due.same("probNum(2, 0)", m.probNum(UNTIL, 0), 8L);
            due.same("probDen(2, 0)", m.probDen(UNTIL, 0), 9L);
        }
        due.alike("holds, probNum and probDen", m, twin);
    }

    /** The picture asks for every node at every state, and asking for it again gives the same. */
    private static void readingChangesNothing() {
        due.of("promises 15 and 16", "Nothing changes.");
        for (int n = 2; n <= 12; n++) {
            MarkovChecker unchecked = Sample.filled(n, 16);
            due.same("second reading", Due.picture(unchecked), Due.picture(unchecked));
            due.alike("reading with results not valid", unchecked, Sample.filled(n, 16));
            MarkovChecker checked = checked(n, 16);
            due.same("second reading", Due.picture(checked), Due.picture(checked));
            due.alike("reading with results valid", checked, checked(n, 16));
        }
    }

    private static void refusedKeepsResults() {
        due.of("What it is", "Refused calls change nothing at all.");
        MarkovChecker m = checked(5, COUNT);
        MarkovChecker twin = checked(5, COUNT);
        due.same("setWeight", m.setWeight(4, 4, 2), MarkovChecker.ERR_ROW);
        due.same("setWeight", m.setWeight(0, 0, -1), MarkovChecker.ERR_ARG);
        due.same("setLabel", m.setLabel(0, 4, true), MarkovChecker.ERR_ARG);
        due.same("addAtom", m.addAtom(5), MarkovChecker.ERR_ARG);
        due.same("addNot", m.addNot(UNTIL), MarkovChecker.ERR_ARG);
        due.same("addAnd", m.addAnd(ALL, UNTIL), MarkovChecker.ERR_ARG);
        due.same("addUntil", m.addUntil(ALL, ALL, 9), MarkovChecker.ERR_ARG);
        due.same("addCompare", m.addCompare(ALL, 0, 1, 2), MarkovChecker.ERR_ARG);
        due.value(m, UNTIL, 0, 8, 9);
        due.alike("refused calls", m, twin);
    }
}
