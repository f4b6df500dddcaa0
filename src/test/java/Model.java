import java.math.BigInteger;
import java.util.ArrayList;
import java.util.List;

/**
 * The document once more, in other ways than the program's: fractions of BigInteger at every step,
 * sets as arrays, and for unbounded until plain elimination over all states outside S0 and PSI.
 */
final class Model {
    private static final BigInteger ZERO = BigInteger.ZERO;
    private static final BigInteger ONE = BigInteger.ONE;

    final int n;
    final int[][] weight;
    final boolean[][] label;
    final List<int[]> nodes = new ArrayList<>();
    final List<boolean[]> truth = new ArrayList<>();
    final List<BigInteger[][]> value = new ArrayList<>();
    boolean valid = false;

    Model(int states) {
        n = Math.max(2, Math.min(12, states));
        weight = new int[n][n];
        label = new boolean[n][4];
        for (int s = 0; s < n; s++) {
            weight[s][s] = 1;
        }
    }

    private boolean state(int s) {
        return 0 <= s && s < n;
    }

    int nodeKind(int i) {
        return i >= 0 && i < nodes.size() ? nodes.get(i)[0] : 0;
    }

    private boolean stateNode(int i) {
        return nodeKind(i) != 0 && nodeKind(i) != 4;
    }

    private int total(int s) {
        int sum = 0;
        for (int w : weight[s]) {
            sum += w;
        }
        return sum;
    }

    int setWeight(int s, int t, int w) {
        if (!state(s) || !state(t) || w < 0 || w > 4) {
            return -1;
        }
        if (total(s) - weight[s][t] + w > 4) {
            return -3;
        }
        weight[s][t] = w;
        valid = false;
        return 0;
    }

    int getWeight(int s, int t) {
        return state(s) && state(t) ? weight[s][t] : -1;
    }

    int setLabel(int s, int a, boolean on) {
        if (!state(s) || a < 0 || a > 3) {
            return -1;
        }
        label[s][a] = on;
        valid = false;
        return 0;
    }

    int getLabels(int s) {
        if (!state(s)) {
            return -1;
        }
        int bits = 0;
        for (int a = 3; a >= 0; a--) {
            bits = bits * 2 + (label[s][a] ? 1 : 0);
        }
        return bits;
    }

    private int add(boolean right, int... node) {
        if (nodes.size() == 16) {
            return -2;
        }
        if (!right) {
            return -1;
        }
        nodes.add(node);
        valid = false;
        return nodes.size() - 1;
    }

    int addAtom(int a) {
        return add(a >= 0 && a <= 4, 1, a);
    }

    int addNot(int x) {
        return add(stateNode(x), 2, x);
    }

    int addAnd(int x, int y) {
        return add(stateNode(x) && stateNode(y), 3, x, y);
    }

    int addUntil(int x, int y, int bound) {
        return add(stateNode(x) && stateNode(y) && bound >= -1 && bound <= 8, 4, x, y, bound);
    }

    int addCompare(int p, int op, int num, int den) {
        boolean threshold = den >= 1 && den <= 1024 && num >= 0 && num <= den;
        return add(nodeKind(p) == 4 && op >= 0 && op <= 3 && threshold, 5, p, op, num, den);
    }

    void clearFormulas() {
        nodes.clear();
        valid = false;
    }

    boolean holds(int i, int s) {
        return valid && stateNode(i) && state(s) && truth.get(i)[s];
    }

    long prob(int i, int s, int part) {
        return valid && nodeKind(i) == 4 && state(s) ? value.get(i)[s][part].longValueExact() : 0;
    }

    int check() {
        for (int s = 0; s < n; s++) {
            if (total(s) == 0) {
                return -3;
            }
        }
        truth.clear();
        value.clear();
        for (int[] node : nodes) {
            boolean[] holds = new boolean[n];
            BigInteger[][] values = null;
            if (node[0] == 4) {
                boolean[] phi = truth.get(node[1]);
                boolean[] psi = truth.get(node[2]);
                values = node[3] < 0 ? unbounded(phi, psi) : bounded(phi, psi, node[3]);
            } else {
                for (int s = 0; s < n; s++) {
                    holds[s] = holdsAt(node, s);
                }
            }
            truth.add(holds);
            value.add(values);
        }
        valid = true;
        return 0;
    }

    private boolean holdsAt(int[] node, int s) {
        switch (node[0]) {
            case 1:
                return node[1] == 4 || label[s][node[1]];
            case 2:
                return !truth.get(node[1])[s];
            case 3:
                return truth.get(node[1])[s] && truth.get(node[2])[s];
            default:
                BigInteger[] threshold = fraction(BigInteger.valueOf(node[3]), BigInteger.valueOf(node[4]));
                int sign = minus(value.get(node[1])[s], threshold)[0].signum();
                return node[2] == 0 ? sign >= 0 : node[2] == 1 ? sign > 0 : node[2] == 2 ? sign <= 0 : sign < 0;
        }
    }

    static BigInteger[] fraction(BigInteger num, BigInteger den) {
        BigInteger divisor = num.gcd(den);
        if (den.signum() < 0) {
            divisor = divisor.negate();
        }
        return new BigInteger[] {num.divide(divisor), den.divide(divisor)};
    }

    private static BigInteger[] whole(long number) {
        return new BigInteger[] {BigInteger.valueOf(number), ONE};
    }

    static BigInteger[] plus(BigInteger[] a, BigInteger[] b) {
        return fraction(a[0].multiply(b[1]).add(b[0].multiply(a[1])), a[1].multiply(b[1]));
    }

    static BigInteger[] minus(BigInteger[] a, BigInteger[] b) {
        return plus(a, new BigInteger[] {b[0].negate(), b[1]});
    }

    static BigInteger[] times(BigInteger[] a, BigInteger[] b) {
        return fraction(a[0].multiply(b[0]), a[1].multiply(b[1]));
    }

    static BigInteger[] over(BigInteger[] a, BigInteger[] b) {
        return fraction(a[0].multiply(b[1]), a[1].multiply(b[0]));
    }

    private BigInteger[] move(int s, int t) {
        return fraction(BigInteger.valueOf(weight[s][t]), BigInteger.valueOf(total(s)));
    }

    /** The sum over t of the chance of a move from s to t times the value at t. */
    BigInteger[] mean(int s, BigInteger[][] values) {
        BigInteger[] sum = whole(0);
        for (int t = 0; t < n; t++) {
            sum = plus(sum, times(move(s, t), values[t]));
        }
        return sum;
    }

    private BigInteger[][] bounded(boolean[] phi, boolean[] psi, int k) {
        BigInteger[][] values = new BigInteger[n][];
        BigInteger[][] shorter = k == 0 ? null : bounded(phi, psi, k - 1);
        for (int s = 0; s < n; s++) {
            values[s] = psi[s] ? whole(1) : k == 0 || !phi[s] ? whole(0) : mean(s, shorter);
        }
        return values;
    }

    /** The states from which a sequence through states of via leads into target. */
    private boolean[] reaching(boolean[] target, boolean[] via) {
        boolean[] found = new boolean[n];
        for (int s = 0; s < n; s++) {
            boolean[] seen = new boolean[n];
            List<Integer> waiting = new ArrayList<>(List.of(s));
            while (!waiting.isEmpty()) {
                int u = waiting.remove(waiting.size() - 1);
                found[s] |= target[u];
                for (int t = 0; t < n && via[u]; t++) {
                    if (weight[u][t] > 0 && !seen[t]) {
                        seen[t] = true;
                        waiting.add(t);
                    }
                }
            }
        }
        return found;
    }

    /** 0 where the document's S0 is, 1 where S1 is, and 2 elsewhere. */
    int[] sets(boolean[] phi, boolean[] psi) {
        boolean[] may = reaching(psi, phi);
        boolean[] zero = new boolean[n];
        boolean[] via = new boolean[n];
        for (int s = 0; s < n; s++) {
            zero[s] = !may[s];
            via[s] = phi[s] && !psi[s];
        }
        boolean[] fail = reaching(zero, via);
        int[] sets = new int[n];
        for (int s = 0; s < n; s++) {
            sets[s] = zero[s] ? 0 : fail[s] ? 2 : 1;
        }
        return sets;
    }

    private BigInteger[][] unbounded(boolean[] phi, boolean[] psi) {
        int[] sets = sets(phi, psi);
        BigInteger[][][] rows = new BigInteger[n][n + 1][];
        for (int s = 0; s < n; s++) {
            boolean free = sets[s] != 0 && !psi[s];
            for (int t = 0; t < n; t++) {
                rows[s][t] = minus(whole(s == t ? 1 : 0), free ? move(s, t) : whole(0));
            }
            rows[s][n] = whole(psi[s] ? 1 : 0);
        }
        for (int p = 0; p < n; p++) {
            solveFor(rows, p);
        }
        BigInteger[][] values = new BigInteger[n][];
        for (int s = 0; s < n; s++) {
            values[s] = over(rows[s][n], rows[s][s]);
        }
        agreesWithSets(sets, values);
        return values;
    }

    private void solveFor(BigInteger[][][] rows, int p) {
        for (int s = 0; s < n; s++) {
            if (s != p && rows[s][p][0].signum() != 0) {
                BigInteger[] factor = over(rows[s][p], rows[p][p]);
                for (int t = 0; t <= n; t++) {
                    rows[s][t] = minus(rows[s][t], times(factor, rows[p][t]));
                }
            }
        }
    }

    /** The model would be of no use if it did not keep to what the document says of S0 and S1. */
    private void agreesWithSets(int[] sets, BigInteger[][] values) {
        for (int s = 0; s < n; s++) {
            BigInteger[] want = sets[s] == 2 ? mean(s, values) : whole(sets[s]);
            if (!want[0].equals(values[s][0]) || !want[1].equals(values[s][1])) {
                throw new IllegalStateException("the model contradicts the document");
            }
            if (sets[s] == 2 && (values[s][0].equals(ZERO) || values[s][0].equals(values[s][1]))) {
                throw new IllegalStateException("a state outside S0 and S1 has value 0 or 1");
            }
        }
    }
}
