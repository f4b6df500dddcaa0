import java.util.function.IntSupplier;

/** Compares answers with the ones that are due, and prints each that differs. */
final class Due {
    private int wrong = 0;

    void same(String what, Object got, Object want) {
        if (!got.equals(want)) {
            wrong++;
            System.out.println(what + " answered " + got + ", due is " + want);
        }
    }

    void value(MarkovChecker m, int i, int s, long num, long den) {
        String got = m.probNum(i, s) + "/" + m.probDen(i, s);
        same("value of node " + i + " at state " + s, got, num + "/" + den);
    }

    /** Bit s of truth says whether node i is to hold at state s. */
    void truth(MarkovChecker m, int i, int truth) {
        for (int s = 0; s < m.stateCount(); s++) {
            same("holds(" + i + ", " + s + ")", m.holds(i, s), (truth >> s & 1) == 1);
        }
    }

    /** The call is to answer code and change nothing, not even whether results are valid. */
    void refused(String what, MarkovChecker m, IntSupplier call, int code) {
        String before = picture(m);
        same(what, call.getAsInt(), code);
        same("picture after " + what, picture(m), before);
    }

    /**
     * The call is to answer code and to make results not valid. Node i is to be an until node, at
     * least until the call.
     */
    void accepted(String what, MarkovChecker m, int i, IntSupplier call, int code) {
        same("check() before " + what, m.check(), MarkovChecker.OK);
        same("valid before " + what, m.probDen(i, 0) > 0, true);
        same(what, call.getAsInt(), code);
        same("valid after " + what, m.probDen(i, 0) > 0, false);
    }

    void end() {
        System.out.println(wrong == 0 ? "all answers are as due" : wrong + " answers are not as due");
        if (wrong != 0) {
            System.exit(1);
        }
    }

    /** Everything that the getters tell of the object. */
    static String picture(MarkovChecker m) {
        StringBuilder text = new StringBuilder();
        text.append(chain(m));
        for (int i = -1; i <= MarkovChecker.MAX_NODES; i++) {
            text.append(" node ").append(m.nodeKind(i));
            for (int s = 0; s < m.stateCount(); s++) {
                text.append(m.holds(i, s) ? " +" : " -");
                text.append(m.probNum(i, s)).append('/').append(m.probDen(i, s));
            }
        }
        return text.toString();
    }

    /** The weights and labels alone. */
    static String chain(MarkovChecker m) {
        StringBuilder text = new StringBuilder();
        text.append(m.stateCount()).append(" states");
        for (int s = 0; s < m.stateCount(); s++) {
            text.append(" row");
            for (int t = 0; t < m.stateCount(); t++) {
                text.append(' ').append(m.getWeight(s, t));
            }
            text.append(" labels ").append(m.getLabels(s));
        }
        return text.toString();
    }
}
