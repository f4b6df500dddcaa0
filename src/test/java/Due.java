import java.util.function.Function;
import java.util.function.Supplier;

/** Compares answers with the ones that are due, and prints each that differs. */
final class Due {
    private String sentence = "";
    private int wrong = 0;

    /** Names the sentence of the document that the answers from here on belong to. */
    void of(String place, String words) {
        sentence = place + ", \"" + words + "\": ";
    }

    void same(String what, Object got, Object want) {
        if (!got.equals(want)) {
            wrong++;
            System.out.println(sentence + what + " answered " + got + ", due is " + want);
        }
    }

    void value(MarkovChecker m, int i, int s, long num, long den) {
        String got = m.probNum(i, s) + "/" + m.probDen(i, s);
        same("value of node " + i + " at state " + s, got, num + "/" + den);
    }

    /** Bit s of truth says whether node i is to hold at state s. */
    void truth(MarkovChecker m, int i, int truth) {
        for (int s = 0; s < m.stateCount(); s++) {
            same("holds(" + i + ", " + s + ")", m.holds(i, s), (truth >> s & 1) == 1);
        }
    }

    /**
     * The call is to answer what is due and to change nothing at all, with results not valid before
     * it and, if the object can be checked, with results valid.
     */
    void changesNothing(
            String what, Supplier<MarkovChecker> make, Function<MarkovChecker, Object> call, Object answer) {
        MarkovChecker unchecked = make.get();
        same(what, call.apply(unchecked), answer);
        alike(what + " with results not valid", unchecked, make.get());
        MarkovChecker checked = make.get();
        MarkovChecker twin = make.get();
        if (checked.check() == MarkovChecker.OK) {
            twin.check();
            same(what, call.apply(checked), answer);
            alike(what + " with results valid", checked, twin);
        }
    }

    /**
     * The call is to answer what is due and to leave results not valid, whether they were valid or
     * not. The object is to be one of Sample, for there is a node to ask.
     */
    void makesNotValid(
            String what, Supplier<MarkovChecker> make, Function<MarkovChecker, Object> call, Object answer) {
        MarkovChecker unchecked = make.get();
        same(what, call.apply(unchecked), answer);
        notValid(what, unchecked);
        MarkovChecker checked = make.get();
        same("check() before " + what, checked.check(), MarkovChecker.OK);
        same("valid before " + what, checked.probDen(Sample.UNTIL, 0) > 0, true);
        same(what, call.apply(checked), answer);
        notValid(what, checked);
    }

    private void notValid(String what, MarkovChecker m) {
        for (int i = 0; i < MarkovChecker.MAX_NODES; i++) {
            for (int s = 0; s < m.stateCount(); s++) {
                String got = m.holds(i, s) + " " + m.probNum(i, s) + "/" + m.probDen(i, s);
                same("node " + i + " at state " + s + " after " + what, got, "false 0/0");
            }
        }
    }

    /** The two are to answer alike now, and later too, where what is not seen now would show. */
    void alike(String what, MarkovChecker m, MarkovChecker twin) {
        same("picture after " + what, picture(m), picture(twin));
        same("check() after " + what, m.check(), twin.check());
        same("picture after " + what + " and check()", picture(m), picture(twin));
        same("next index after " + what, m.addAtom(MarkovChecker.ATOM_TRUE), twin.addAtom(MarkovChecker.ATOM_TRUE));
        for (int s = 0; s < twin.stateCount(); s++) {
            for (int w = MarkovChecker.MAX_WEIGHT; w > 0; w--) {
                String room = "room for " + w + " in row " + s + " after " + what;
                same(room, m.setWeight(s, s, w), twin.setWeight(s, s, w));
            }
        }
        same("last check() after " + what, m.check(), twin.check());
        same("last picture after " + what, picture(m), picture(twin));
    }

    void end() {
        System.out.println(wrong == 0 ? "all answers are as due" : wrong + " answers are not as due");
        if (wrong != 0) {
            System.exit(1);
        }
    }

    /** Everything that the getters tell of the object. */
    static String picture(MarkovChecker m) {
        StringBuilder text = new StringBuilder();
        text.append(chain(m));
        for (int i = -1; i <= MarkovChecker.MAX_NODES; i++) {
            text.append(" node ").append(m.nodeKind(i));
            for (int s = 0; s < m.stateCount(); s++) {
                text.append(m.holds(i, s) ? " +" : " -");
                text.append(m.probNum(i, s)).append('/').append(m.probDen(i, s));
            }
        }
        return text.toString();
    }

    /** The weights and labels alone. */
    static String chain(MarkovChecker m) {
        StringBuilder text = new StringBuilder();
        text.append(m.stateCount()).append(" states");
        for (int s = 0; s < m.stateCount(); s++) {
            text.append(" row");
            for (int t = 0; t < m.stateCount(); t++) {
                text.append(' ').append(m.getWeight(s, t));
            }
            text.append(" labels ").append(m.getLabels(s));
        }
        return text.toString();
    }

    /** The kinds of all nodes, and of the places around the table. */
    static String kinds(MarkovChecker m) {
        StringBuilder text = new StringBuilder();
        for (int i = -1; i <= MarkovChecker.MAX_NODES; i++) {
            text.append(m.nodeKind(i));
        }
        return text.toString();
    }
}
