/**
 * All promises: long runs of calls, good and wrong ones, on the program and the model at once. The
 * runs come from a fixed sequence of numbers, so that every run of this test is the same.
 */
public final class ReferenceTest {
    private static final Due due = new Due();
    private static long seed = 20261115L;

    public static void main(String[] args) {
        for (int run = 0; run < 600; run++) {
            mixedRun(run, -2 + run % 17);
        }
        for (int run = 0; run < 1500; run++) {
            fullRun(run, 2 + run % 11);
        }
        due.end();
    }

    private static int below(int limit) {
        seed = seed * 6364136223846793005L + 1442695040888963407L;
        return (int) ((seed >>> 33) % limit);
    }

    /** Mostly a number in 0..limit-1, at times one just outside or far away. */
    private static int about(int limit) {
        int kind = below(40);
        if (kind == 0) {
            int[] far = {Integer.MIN_VALUE, Integer.MAX_VALUE, -1000, 1000};
            return far[below(4)];
        }
        return kind <= 2 ? -1 : kind <= 4 ? limit : below(limit);
    }

    private static void mixedRun(int run, int states) {
        MarkovChecker m = new MarkovChecker(states);
        Model model = new Model(states);
        for (int call = 0; call < 120; call++) {
            oneCall("run " + run + " call " + call, m, model);
        }
        compare("run " + run, m, model);
    }

    private static void oneCall(String where, MarkovChecker m, Model model) {
        int n = model.n;
        int count = Math.max(1, model.nodes.size());
        int kind = below(32);
        if (kind < 10) {
            int s = about(n);
            int t = about(n);
            int w = about(5);
            due.same(where + " setWeight", m.setWeight(s, t, w), model.setWeight(s, t, w));
        } else if (kind < 14) {
            int s = about(n);
            int a = about(4);
            boolean on = below(2) == 0;
            due.same(where + " setLabel", m.setLabel(s, a, on), model.setLabel(s, a, on));
        } else if (kind < 26) {
            addNode(where, m, model, count);
        } else if (kind < 31) {
            due.same(where + " check", m.check(), model.check());
            compare(where, m, model);
        } else if (below(4) == 0) {
            m.clearFormulas();
            model.clearFormulas();
        }
        int i = about(count);
        int s = about(n);
        due.same(where + " nodeKind", m.nodeKind(i), model.nodeKind(i));
        due.same(where + " holds", m.holds(i, s), model.holds(i, s));
        due.same(where + " probNum", m.probNum(i, s), model.prob(i, s, 0));
        due.same(where + " probDen", m.probDen(i, s), model.prob(i, s, 1));
    }

    private static void addNode(String where, MarkovChecker m, Model model, int count) {
        int x = about(count);
        int y = about(count);
        int kind = below(12);
        if (kind < 2) {
            int a = about(5);
            due.same(where + " addAtom", m.addAtom(a), model.addAtom(a));
        } else if (kind < 4) {
            due.same(where + " addNot", m.addNot(x), model.addNot(x));
        } else if (kind < 6) {
            due.same(where + " addAnd", m.addAnd(x, y), model.addAnd(x, y));
        } else if (kind < 9) {
            int k = below(2) == 0 ? -1 : about(9);
            due.same(where + " addUntil", m.addUntil(x, y, k), model.addUntil(x, y, k));
        } else {
            int op = about(4);
            int den = below(3) == 0 ? about(1025) : 1 + below(6);
            int num = den > 0 && den < 2000 ? about(den + 1) : about(10);
            due.same(where + " addCompare", m.addCompare(x, op, num, den), model.addCompare(x, op, num, den));
        }
    }

    /** A chain with most rows full and a table of until nodes over all pairs of its labels. */
    private static void fullRun(int run, int states) {
        MarkovChecker m = new MarkovChecker(states);
        Model model = new Model(states);
        int absorbing = below(4);
        for (int s = absorbing; s < states; s++) {
            m.setWeight(s, s, 0);
            model.setWeight(s, s, 0);
            for (int tries = 1 + below(8); tries > 0; tries--) {
                int t = below(3) > 0 ? Math.min(states - 1, Math.max(0, s - 2 + below(5))) : below(states);
                int w = 1 + below(3);
                due.same("setWeight", m.setWeight(s, t, w), model.setWeight(s, t, w));
            }
        }
        for (int s = 0; s < states; s++) {
            int bits = below(16) & below(16) | (below(3) > 0 ? 8 : 0);
            for (int a = 0; a < 4; a++) {
                m.setLabel(s, a, (bits >> a & 1) == 1);
                model.setLabel(s, a, (bits >> a & 1) == 1);
            }
        }
        for (int a = 0; a <= 4; a++) {
            due.same("addAtom", m.addAtom(a), model.addAtom(a));
        }
        for (int i = 5; i < 16; i++) {
            addUsefulNode(m, model, i);
        }
        due.same("check", m.check(), model.check());
        compare("full run " + run, m, model);
    }

    private static void addUsefulNode(MarkovChecker m, Model model, int i) {
        if (i % 3 == 1) {
            int op = below(4);
            int den = 1 + below(8);
            int num = below(den + 1);
            due.same("addCompare", m.addCompare(i - 1, op, num, den), model.addCompare(i - 1, op, num, den));
        } else if (i % 3 == 2 && i > 5 && below(2) == 0) {
            due.same("addNot", m.addNot(i - 1), model.addNot(i - 1));
        } else {
            int x = 3 + below(2);
            int y = i > 7 && below(3) == 0 ? 7 : below(3);
            int k = below(3) == 0 ? below(9) : -1;
            due.same("addUntil", m.addUntil(x, y, k), model.addUntil(x, y, k));
        }
    }

    private static void compare(String where, MarkovChecker m, Model model) {
        due.same(where + " stateCount", m.stateCount(), model.n);
        for (int s = -1; s <= model.n; s++) {
            due.same(where + " getLabels " + s, m.getLabels(s), model.getLabels(s));
            for (int t = -1; t <= model.n; t++) {
                due.same(where + " getWeight " + s + " " + t, m.getWeight(s, t), model.getWeight(s, t));
            }
            for (int i = -1; i <= 16; i++) {
                String place = where + " node " + i + " state " + s;
                due.same(place + " nodeKind", m.nodeKind(i), model.nodeKind(i));
                due.same(place + " holds", m.holds(i, s), model.holds(i, s));
                due.same(place + " probNum", m.probNum(i, s), model.prob(i, s, 0));
                due.same(place + " probDen", m.probDen(i, s), model.prob(i, s, 1));
            }
        }
    }
}
