import java.util.function.Function;

/** Promises 7 to 11: the sixteenth node, the seventeenth, and ERR_FULL before ERR_ARG. */
public final class FullTableTest {
    private static final int OK = MarkovChecker.OK;
    private static final int ERR_ARG = MarkovChecker.ERR_ARG;
    private static final int ERR_FULL = MarkovChecker.ERR_FULL;
    private static final int ALL = Sample.ALL;
    private static final int GOAL = Sample.GOAL;
    private static final int UNTIL = Sample.UNTIL;
    private static final int LAST = 15;
    private static final Due due = new Due();

    public static void main(String[] args) {
        sixteenth();
        for (int n = 2; n <= 12; n++) {
            resultsOfTheSixteenth(n);
        }
        seventeenth();
        fullBeforeArguments();
        argumentsBeforeFull();
        roomAgain();
        sixteenOfEachKind();
        due.end();
    }

    private static void lastOne(String what, int kind, Function<MarkovChecker, Object> add) {
        due.makesNotValid(what + " as the sixteenth", () -> Sample.filled(5, LAST), add, LAST);
        MarkovChecker m = Sample.filled(5, LAST);
        String kinds = Due.kinds(m).substring(0, 1 + LAST);
        String chain = Due.chain(m);
        add.apply(m);
        due.same("kinds", Due.kinds(m), kinds + kind + MarkovChecker.KIND_NONE);
        due.same("chain", Due.chain(m), chain);
    }

    private static void sixteenth() {
        due.of("promise 7", "if 16 nodes exist, ERR_FULL");
        lastOne("addAtom", MarkovChecker.KIND_ATOM, m -> m.addAtom(4));
        due.of("promise 8", "if 16 nodes exist, ERR_FULL");
        lastOne("addNot", MarkovChecker.KIND_NOT, m -> m.addNot(14));
        due.of("promise 9", "full (16 nodes) gives ERR_FULL");
        lastOne("addAnd", MarkovChecker.KIND_AND, m -> m.addAnd(14, 0));
        due.of("promise 10", "full gives ERR_FULL");
        lastOne("addUntil", MarkovChecker.KIND_UNTIL, m -> m.addUntil(14, 14, 8));
        due.of("promise 11", "full gives ERR_FULL");
        lastOne("addCompare", MarkovChecker.KIND_COMPARE, m -> m.addCompare(UNTIL, 3, 1024, 1024));
    }

    private static MarkovChecker checkedWithLast(int n, Function<MarkovChecker, Object> add) {
        MarkovChecker m = Sample.filled(n, LAST);
        add.apply(m);
        due.same("check()", m.check(), OK);
        due.value(m, UNTIL, 0, 8, 9);
        return m;
    }

    private static void resultsOfTheSixteenth(int n) {
        due.of("promise 14", "it evaluates nodes 0..count-1 in index order");
        int every = (1 << n) - 1;
        int goal = 1 << n - 1;
        due.truth(checkedWithLast(n, m -> m.addAtom(3)), LAST, 1);
        due.truth(checkedWithLast(n, m -> m.addNot(GOAL)), LAST, every & ~goal);
        due.truth(checkedWithLast(n, m -> m.addAnd(GOAL, ALL)), LAST, goal);
        due.truth(checkedWithLast(n, m -> m.addCompare(UNTIL, 3, 8, 9)), LAST, every & ~goal & ~1);
        MarkovChecker bounded = checkedWithLast(n, m -> m.addUntil(ALL, GOAL, 1));
        MarkovChecker unbounded = checkedWithLast(n, m -> m.addUntil(ALL, GOAL, -1));
        due.value(bounded, LAST, 0, 2, 3);
        due.value(unbounded, LAST, 0, 1, 1);
        for (int s = 1; s < n; s++) {
            due.value(bounded, LAST, s, s == n - 1 ? 1 : 0, 1);
            due.value(unbounded, LAST, s, s == n - 1 ? 1 : 0, 1);
        }
    }

    private static void full(String what, Function<MarkovChecker, Object> add) {
        due.changesNothing(what + " in a full table", () -> Sample.filled(5, 16), add, ERR_FULL);
    }

    private static void seventeenth() {
        due.of("promise 7", "if 16 nodes exist, ERR_FULL");
        for (int a = 0; a <= 4; a++) {
            int label = a;
            full("addAtom(" + a + ")", m -> m.addAtom(label));
        }
        due.of("promise 8", "if 16 nodes exist, ERR_FULL");
        full("addNot(0)", m -> m.addNot(0));
        full("addNot(15)", m -> m.addNot(LAST));
        due.of("promise 9", "full (16 nodes) gives ERR_FULL");
        full("addAnd(0, 15)", m -> m.addAnd(0, LAST));
        due.of("promise 10", "full gives ERR_FULL");
        full("addUntil(0, 1, -1)", m -> m.addUntil(ALL, GOAL, -1));
        full("addUntil(0, 15, 0)", m -> m.addUntil(ALL, LAST, 0));
        full("addUntil(0, 1, 8)", m -> m.addUntil(ALL, GOAL, 8));
        due.of("promise 11", "full gives ERR_FULL");
        full("addCompare(2, 0, 1, 2)", m -> m.addCompare(UNTIL, 0, 1, 2));
        full("addCompare(2, 3, 0, 1024)", m -> m.addCompare(UNTIL, 3, 0, 1024));
    }

    /** Every condition that comes after the full table is broken, alone and together. */
    private static void fullBeforeArguments() {
        int[] wrong = {Integer.MIN_VALUE, -2, 16, 17, 1025, Integer.MAX_VALUE};
        for (int x : wrong) {
            due.of("promise 7", "Conditions in order: if 16 nodes exist, ERR_FULL; if a is not in 0..4, ERR_ARG.");
            full("addAtom(" + x + ")", m -> m.addAtom(x));
            due.of("promise 8", "Conditions in order: if 16 nodes exist, ERR_FULL; if x is not an existing state node");
            full("addNot(" + x + ")", m -> m.addNot(x));
            due.of("promise 9", "Conditions in order: full (16 nodes) gives ERR_FULL");
            full("addAnd(x, 0) of " + x, m -> m.addAnd(x, ALL));
            full("addAnd(0, x) of " + x, m -> m.addAnd(ALL, x));
            full("addAnd(x, x) of " + x, m -> m.addAnd(x, x));
            due.of("promise 10", "Conditions in order: full gives ERR_FULL");
            full("addUntil(x, 0, 1) of " + x, m -> m.addUntil(x, ALL, 1));
            full("addUntil(0, x, 1) of " + x, m -> m.addUntil(ALL, x, 1));
            full("addUntil(0, 1, x) of " + x, m -> m.addUntil(ALL, GOAL, x));
            full("addUntil(x, x, x) of " + x, m -> m.addUntil(x, x, x));
            due.of("promise 11", "Conditions in order: full gives ERR_FULL");
            full("addCompare(x, 0, 1, 2) of " + x, m -> m.addCompare(x, 0, 1, 2));
            full("addCompare(2, x, 1, 2) of " + x, m -> m.addCompare(UNTIL, x, 1, 2));
            full("addCompare(2, 0, x, 2) of " + x, m -> m.addCompare(UNTIL, 0, x, 2));
            full("addCompare(x, x, x, x) of " + x, m -> m.addCompare(x, x, x, x));
        }
        full("addNot(until)", m -> m.addNot(UNTIL));
        full("addAnd(until, until)", m -> m.addAnd(UNTIL, UNTIL));
        full("addCompare(atom)", m -> m.addCompare(ALL, 0, 1, 2));
        full("addCompare with 0/0", m -> m.addCompare(UNTIL, 0, 0, 0));
        full("addCompare with 0/1025", m -> m.addCompare(UNTIL, 0, 0, 1025));
    }

    /** With fifteen nodes the table is not full yet. */
    private static void argumentsBeforeFull() {
        due.of("promise 7", "if a is not in 0..4, ERR_ARG. On refusal nothing changes.");
        notFull("addAtom(5)", m -> m.addAtom(5));
        due.of("promise 8", "an index >= count is refused");
        notFull("addNot(15)", m -> m.addNot(LAST));
        due.of("promise 9", "y not an existing state node gives ERR_ARG");
        notFull("addAnd(0, 15)", m -> m.addAnd(ALL, LAST));
        due.of("promise 10", "bound neither UNBOUNDED (-1) nor in 0..8 gives ERR_ARG");
        notFull("addUntil(0, 1, 9)", m -> m.addUntil(ALL, GOAL, 9));
        due.of("promise 11", "num not in 0..den gives ERR_ARG");
        notFull("addCompare(2, 0, 2, 1)", m -> m.addCompare(UNTIL, 0, 2, 1));
    }

    private static void notFull(String what, Function<MarkovChecker, Object> add) {
        due.changesNothing(what + " with fifteen nodes", () -> Sample.filled(5, LAST), add, ERR_ARG);
    }

    private static void roomAgain() {
        due.of("promise 12", "removes all nodes (count becomes 0)");
        MarkovChecker m = Sample.filled(5, 16);
        due.same("addAtom in a full table", m.addAtom(0), ERR_FULL);
        m.clearFormulas();
        for (int i = 0; i < 16; i++) {
            due.same("index after clearFormulas()", m.addAtom(0), i);
        }
        due.same("addAtom in a full table", m.addAtom(0), ERR_FULL);
    }

    /** Tables of one kind alone, as far as the kind allows it. */
    private static void sixteenOfEachKind() {
        due.of("What it is", "A table of at most 16 nodes, with indices 0..count-1 in order of creation.");
        MarkovChecker nots = new MarkovChecker(2);
        MarkovChecker ands = new MarkovChecker(2);
        MarkovChecker untils = new MarkovChecker(2);
        MarkovChecker compares = new MarkovChecker(2);
        nots.addAtom(4);
        ands.addAtom(4);
        untils.addAtom(4);
        compares.addAtom(4);
        compares.addUntil(0, 0, 0);
        for (int i = 1; i < 16; i++) {
            due.same("addNot", nots.addNot(i - 1), i);
            due.same("addAnd", ands.addAnd(i - 1, 0), i);
            due.same("addUntil", untils.addUntil(0, 0, i % 9), i);
        }
        for (int i = 2; i < 16; i++) {
            due.same("addCompare", compares.addCompare(1, 0, 1, 1), i);
        }
        due.same("full of addNot", nots.addNot(0), ERR_FULL);
        due.same("full of addAnd", ands.addAnd(0, 0), ERR_FULL);
        due.same("full of addUntil", untils.addUntil(0, 0, 0), ERR_FULL);
        due.same("full of addCompare", compares.addCompare(1, 0, 1, 1), ERR_FULL);
        nots.check();
        ands.check();
        untils.check();
        compares.check();
        due.truth(nots, LAST, 0b00);
        due.truth(nots, 14, 0b11);
        due.truth(ands, LAST, 0b11);
        due.value(untils, LAST, 1, 1, 1);
        due.truth(compares, LAST, 0b11);
    }
}
