/**
 * A small discrete-time Markov chain with a table of formula nodes over it, evaluated exactly.
 *
 * <p>Sets of states are kept as bits of an int: bit s stands for state s.
 */
public final class MarkovChecker {
    public static final int OK = 0;
    public static final int ERR_ARG = -1;
    public static final int ERR_FULL = -2;
    public static final int ERR_ROW = -3;
    public static final int KIND_NONE = 0;
    public static final int KIND_ATOM = 1;
    public static final int KIND_NOT = 2;
    public static final int KIND_AND = 3;
    public static final int KIND_UNTIL = 4;
    public static final int KIND_COMPARE = 5;
    public static final int OP_GE = 0;
    public static final int OP_GT = 1;
    public static final int OP_LE = 2;
    public static final int OP_LT = 3;
    public static final int ATOM_TRUE = 4;
    public static final int UNBOUNDED = -1;
    public static final int MAX_BOUND = 8;
    public static final int MAX_NODES = 16;
    public static final int MIN_STATES = 2;
    public static final int MAX_STATES = 12;
    public static final int MAX_WEIGHT = 4;
    public static final int MAX_ROW = 4;
    public static final int LABELS = 4;
    public static final int MAX_DEN = 1024;

    private static final int WEIGHT_CELLS = MAX_STATES * MAX_STATES;
    private static final int VALUE_CELLS = MAX_NODES * MAX_STATES;
    // One column more than states, for the right-hand side of the equations.
    private static final int MATRIX_WIDTH = MAX_STATES + 1;
    private static final int MATRIX_CELLS = MAX_STATES * MATRIX_WIDTH;
    // Every row total 1..MAX_ROW divides it, so one step of any row fits into twelfths.
    private static final int STEP_PARTS = 12;
    // Euclid's algorithm on two longs needs fewer than 100 divisions.
    private static final int GCD_STEPS = 128;

    private final int states;
    private final int[] weights = new int[WEIGHT_CELLS];
    private final int[] labels = new int[MAX_STATES];

    private int nodes;
    private final int[] kinds = new int[MAX_NODES];
    // The label of an atom, the child of a negation or comparison, the left child of the others.
    private final int[] firsts = new int[MAX_NODES];
    // The right child of a conjunction or until, the operator of a comparison.
    private final int[] seconds = new int[MAX_NODES];
    private final int[] bounds = new int[MAX_NODES];
    private final int[] thresholdNums = new int[MAX_NODES];
    private final int[] thresholdDens = new int[MAX_NODES];

    private boolean valid;
    private final int[] truths = new int[MAX_NODES];
    private final long[] valueNums = new long[VALUE_CELLS];
    private final long[] valueDens = new long[VALUE_CELLS];

    // Working space of check; it means nothing between calls.
    private final long[] parts = new long[MAX_STATES];
    private final long[] nextParts = new long[MAX_STATES];
    private final int[] unknowns = new int[MAX_STATES];
    private final long[] matrix = new long[MATRIX_CELLS];

    public MarkovChecker(int states) {
        int clamped = states;
        if (clamped < MIN_STATES) {
            clamped = MIN_STATES;
        }
        if (clamped > MAX_STATES) {
            clamped = MAX_STATES;
        }
        this.states = clamped;
        for (int s = 0; s < clamped; s++) {
            weights[s * MAX_STATES + s] = 1;
        }
    }

    public int stateCount() {
        return states;
    }

    public int setWeight(int s, int t, int w) {
        if (!isState(s) || !isState(t) || w < 0 || w > MAX_WEIGHT) {
            return ERR_ARG;
        }
        int cell = s * MAX_STATES + t;
        if (rowTotal(s) - weights[cell] + w > MAX_ROW) {
            return ERR_ROW;
        }
        weights[cell] = w;
        valid = false;
        return OK;
    }

    public int getWeight(int s, int t) {
        if (!isState(s) || !isState(t)) {
            return -1;
        }
        return weights[s * MAX_STATES + t];
    }

    public int setLabel(int s, int a, boolean on) {
        if (!isState(s) || a < 0 || a >= LABELS) {
            return ERR_ARG;
        }
        if (on) {
            labels[s] = labels[s] | (1 << a);
        } else {
            labels[s] = labels[s] & ~(1 << a);
        }
        valid = false;
        return OK;
    }

    public int getLabels(int s) {
        if (!isState(s)) {
            return -1;
        }
        return labels[s];
    }

    public int addAtom(int a) {
        if (nodes >= MAX_NODES) {
            return ERR_FULL;
        }
        if (a < 0 || a > ATOM_TRUE) {
            return ERR_ARG;
        }
        return append(KIND_ATOM, a, 0);
    }

    public int addNot(int x) {
        if (nodes >= MAX_NODES) {
            return ERR_FULL;
        }
        if (!isStateNode(x)) {
            return ERR_ARG;
        }
        return append(KIND_NOT, x, 0);
    }

    public int addAnd(int x, int y) {
        if (nodes >= MAX_NODES) {
            return ERR_FULL;
        }
        if (!isStateNode(x) || !isStateNode(y)) {
            return ERR_ARG;
        }
        return append(KIND_AND, x, y);
    }

    public int addUntil(int x, int y, int bound) {
        if (nodes >= MAX_NODES) {
            return ERR_FULL;
        }
        if (!isStateNode(x) || !isStateNode(y)) {
            return ERR_ARG;
        }
        if (bound != UNBOUNDED && (bound < 0 || bound > MAX_BOUND)) {
            return ERR_ARG;
        }
        bounds[nodes] = bound;
        return append(KIND_UNTIL, x, y);
    }

    public int addCompare(int p, int op, int num, int den) {
        if (nodes >= MAX_NODES) {
            return ERR_FULL;
        }
        if (!isUntilNode(p) || op < OP_GE || op > OP_LT) {
            return ERR_ARG;
        }
        if (den < 1 || den > MAX_DEN || num < 0 || num > den) {
            return ERR_ARG;
        }
        thresholdNums[nodes] = num;
        thresholdDens[nodes] = den;
        return append(KIND_COMPARE, p, op);
    }

    public void clearFormulas() {
        nodes = 0;
        valid = false;
    }

    public int nodeKind(int i) {
        if (!isNode(i)) {
            return KIND_NONE;
        }
        return kinds[i];
    }

    public int check() {
        for (int s = 0; s < states; s++) {
            if (rowTotal(s) == 0) {
                return ERR_ROW;
            }
        }
        for (int i = 0; i < nodes; i++) {
            evaluate(i);
        }
        valid = true;
        return OK;
    }

    public boolean holds(int i, int s) {
        if (!valid || !isStateNode(i) || !isState(s)) {
            return false;
        }
        return contains(truths[i], s);
    }

    public long probNum(int i, int s) {
        if (!valid || !isUntilNode(i) || !isState(s)) {
            return 0;
        }
        return valueNums[i * MAX_STATES + s];
    }

    public long probDen(int i, int s) {
        if (!valid || !isUntilNode(i) || !isState(s)) {
            return 0;
        }
        return valueDens[i * MAX_STATES + s];
    }

    private boolean isState(int s) {
        return s >= 0 && s < states;
    }

    private boolean isNode(int i) {
        return i >= 0 && i < nodes;
    }

    private boolean isUntilNode(int i) {
        return isNode(i) && kinds[i] == KIND_UNTIL;
    }

    private boolean isStateNode(int i) {
        return isNode(i) && kinds[i] != KIND_UNTIL;
    }

    private int rowTotal(int s) {
        int total = 0;
        for (int t = 0; t < states; t++) {
            total += weights[s * MAX_STATES + t];
        }
        return total;
    }

    /** The caller has seen that there is room for one more node. */
    private int append(int kind, int first, int second) {
        int index = nodes;
        kinds[index] = kind;
        firsts[index] = first;
        seconds[index] = second;
        nodes = index + 1;
        valid = false;
        return index;
    }

    private static boolean contains(int set, int s) {
        return ((set >> s) & 1) != 0;
    }

    private int allStates() {
        return (1 << states) - 1;
    }

    private void evaluate(int i) {
        int kind = kinds[i];
        if (kind == KIND_ATOM) {
            truths[i] = labelledStates(firsts[i]);
        } else if (kind == KIND_NOT) {
            truths[i] = allStates() & ~truths[firsts[i]];
        } else if (kind == KIND_AND) {
            truths[i] = truths[firsts[i]] & truths[seconds[i]];
        } else if (kind == KIND_COMPARE) {
            truths[i] = comparedStates(i);
        } else if (bounds[i] == UNBOUNDED) {
            evaluateUnbounded(i);
        } else {
            evaluateBounded(i);
        }
    }

    private int labelledStates(int a) {
        if (a == ATOM_TRUE) {
            return allStates();
        }
        int set = 0;
        for (int s = 0; s < states; s++) {
            if (contains(labels[s], a)) {
                set |= 1 << s;
            }
        }
        return set;
    }

    private int comparedStates(int i) {
        int set = 0;
        for (int s = 0; s < states; s++) {
            int cell = firsts[i] * MAX_STATES + s;
            // Values have denominators below 2^31, so the cross products stay far inside a long.
            long left = valueNums[cell] * thresholdDens[i];
            long right = thresholdNums[i] * valueDens[cell];
            if (compare(left, seconds[i], right)) {
                set |= 1 << s;
            }
        }
        return set;
    }

    private static boolean compare(long left, int op, long right) {
        if (op == OP_GE) {
            return left >= right;
        }
        if (op == OP_GT) {
            return left > right;
        }
        if (op == OP_LE) {
            return left <= right;
        }
        return left < right;
    }

    /**
     * Counts the probability after each step in parts of 12^steps, a denominator common to all
     * states, so that the steps themselves need no fractions.
     */
    private void evaluateBounded(int i) {
        int phi = truths[firsts[i]];
        int psi = truths[seconds[i]];
        long whole = 1;
        for (int s = 0; s < states; s++) {
            parts[s] = contains(psi, s) ? 1 : 0;
        }
        for (int step = 0; step < bounds[i]; step++) {
            whole *= STEP_PARTS;
            takeStep(phi, psi, whole);
        }
        for (int s = 0; s < states; s++) {
            storeValue(i, s, parts[s], whole);
        }
    }

    private void takeStep(int phi, int psi, long whole) {
        for (int s = 0; s < states; s++) {
            if (contains(psi, s)) {
                nextParts[s] = whole;
            } else if (contains(phi, s)) {
                nextParts[s] = successorParts(s);
            } else {
                nextParts[s] = 0;
            }
        }
        for (int s = 0; s < states; s++) {
            parts[s] = nextParts[s];
        }
    }

    private long successorParts(int s) {
        int total = 0;
        long sum = 0;
        for (int t = 0; t < states; t++) {
            int w = weights[s * MAX_STATES + t];
            total += w;
            sum += w * parts[t];
        }
        // check refuses a row total of 0 before it comes here.
        return total > 0 ? sum * (STEP_PARTS / total) : 0;
    }

    private void evaluateUnbounded(int i) {
        int phi = truths[firsts[i]];
        int psi = truths[seconds[i]];
        int mayReach = statesReaching(psi, phi);
        int zeros = allStates() & ~mayReach;
        int mayFail = statesReaching(zeros, phi & ~psi);
        int ones = mayReach & ~mayFail;
        for (int s = 0; s < states; s++) {
            long value = contains(ones, s) ? 1 : 0;
            storeValue(i, s, value, 1);
        }
        int size = listUnknowns(mayReach & mayFail);
        for (int row = 0; row < size; row++) {
            fillRow(row, size, ones);
        }
        eliminate(size);
        for (int row = 0; row < size; row++) {
            int start = row * MATRIX_WIDTH;
            storeValue(i, unknowns[row], matrix[start + size], matrix[start + row]);
        }
    }

    /** The states with a sequence of moves into target whose states before the last lie in via. */
    private int statesReaching(int target, int via) {
        int reaching = target;
        // The shortest sequence passes no state twice, so it is found within as many rounds.
        for (int round = 0; round < states; round++) {
            for (int s = 0; s < states; s++) {
                if (contains(via, s) && (successors(s) & reaching) != 0) {
                    reaching |= 1 << s;
                }
            }
        }
        return reaching;
    }

    private int successors(int s) {
        int set = 0;
        for (int t = 0; t < states; t++) {
            if (weights[s * MAX_STATES + t] > 0) {
                set |= 1 << t;
            }
        }
        return set;
    }

    private int listUnknowns(int set) {
        int size = 0;
        for (int s = 0; s < states; s++) {
            if (contains(set, s)) {
                unknowns[size] = s;
                size++;
            }
        }
        return size;
    }

    /** Writes d(s) * value(s) - sum of w(s,t) * value(t) over unknown t = sum of w(s,t) over ones. */
    private void fillRow(int row, int size, int ones) {
        int start = row * MATRIX_WIDTH;
        int s = unknowns[row];
        for (int column = 0; column < size; column++) {
            matrix[start + column] = -weights[s * MAX_STATES + unknowns[column]];
        }
        matrix[start + row] += rowTotal(s);
        long known = 0;
        for (int t = 0; t < states; t++) {
            if (contains(ones, t)) {
                known += weights[s * MAX_STATES + t];
            }
        }
        matrix[start + size] = known;
    }

    /**
     * Gauss-Jordan elimination without fractions (Bareiss). Every entry stays a minor of the first
     * matrix. Unknown states stand beside at least one zero and one one, so there are at most 10
     * rows, each of length at most sqrt(32): minors stay within 2^25, and the products fit a long.
     * From every unknown state some sequence leads out of the unknown ones, so all leading minors,
     * which are the pivots, are positive and no rows need changing places.
     */
    private void eliminate(int size) {
        long previous = 1;
        for (int pivotRow = 0; pivotRow < size; pivotRow++) {
            long pivot = matrix[pivotRow * MATRIX_WIDTH + pivotRow];
            for (int row = 0; row < size; row++) {
                if (row != pivotRow) {
                    clearEntry(row, pivotRow, size, pivot, previous);
                }
            }
            previous = pivot;
        }
    }

    private void clearEntry(int row, int pivotRow, int size, long pivot, long previous) {
        if (previous == 0) {
            return;
        }
        int start = row * MATRIX_WIDTH;
        int pivotStart = pivotRow * MATRIX_WIDTH;
        long factor = matrix[start + pivotRow];
        for (int column = 0; column <= size; column++) {
            long entry = pivot * matrix[start + column] - factor * matrix[pivotStart + column];
            matrix[start + column] = entry / previous;
        }
    }

    private void storeValue(int i, int s, long num, long den) {
        long divisor = commonDivisor(num, den);
        if (divisor == 0) {
            return;
        }
        valueNums[i * MAX_STATES + s] = num / divisor;
        valueDens[i * MAX_STATES + s] = den / divisor;
    }

    private static long commonDivisor(long a, long b) {
        long divisor = a;
        long rest = b;
        for (int step = 0; step < GCD_STEPS && rest != 0; step++) {
            long next = divisor % rest;
            divisor = rest;
            rest = next;
        }
        return divisor;
    }
}
