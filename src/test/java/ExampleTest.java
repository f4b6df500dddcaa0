/** The example of README.md, call by call. */
public final class ExampleTest {
    public static void main(String[] args) {
        Due due = new Due();
        due.of("README.md", "An example");
        MarkovChecker m = new MarkovChecker(3);
        due.same("setWeight(0, 1, 2)", m.setWeight(0, 1, 2), MarkovChecker.OK);
        due.same("setWeight(0, 2, 1)", m.setWeight(0, 2, 1), MarkovChecker.OK);
        due.same("setWeight(0, 2, 3)", m.setWeight(0, 2, 3), MarkovChecker.ERR_ROW);
        due.same("setLabel(1, 0, true)", m.setLabel(1, 0, true), MarkovChecker.OK);

        int all = m.addAtom(MarkovChecker.ATOM_TRUE);
        int goal = m.addAtom(0);
        int reach = m.addUntil(all, goal, MarkovChecker.UNBOUNDED);
        int likely = m.addCompare(reach, MarkovChecker.OP_GE, 1, 2);
        due.same("the four indices", "" + all + goal + reach + likely, "0123");
        due.same("addNot(reach)", m.addNot(reach), MarkovChecker.ERR_ARG);

        due.same("probDen(reach, 0) before check()", m.probDen(reach, 0), 0L);
        due.same("check()", m.check(), MarkovChecker.OK);
        due.value(m, reach, 0, 2, 3);
        due.same("holds(likely, 0)", m.holds(likely, 0), true);
        due.same("holds(likely, 2)", m.holds(likely, 2), false);
        due.end();
    }
}
