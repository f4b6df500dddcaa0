import java.util.ArrayList;
import java.util.List;

/**
 * Promise 14: the values of until nodes held against the definitions themselves, with no chain's
 * values worked out beforehand: on every chain of two states with every bound, on every chain of
 * three states without a bound and on some with one, and on some of twelve states without one.
 */
public final class DefinitionTest {
    private static final int UNBOUNDED = MarkovChecker.UNBOUNDED;
    private static final int UNTIL = 2;
    private static final Due due = new Due();

    public static void main(String[] args) {
        List<int[]> pairs = rows(2);
        for (int[] first : pairs) {
            for (int[] second : pairs) {
                everyUnbounded(first, second);
                everyBounded(1, first, second);
            }
        }
        List<int[]> triples = rows(3);
        for (int[] first : triples) {
            for (int[] second : triples) {
                for (int[] third : triples) {
                    everyUnbounded(first, second, third);
                }
            }
        }
        for (int i = 0; i < triples.size(); i++) {
            everyBounded(3, triples.get(i), triples.get(i * 5 % 34), triples.get((i * 7 + 11) % 34));
        }
        for (int step = 1; step < 12; step++) {
            twelveStates(step);
        }
        due.end();
    }

    /** All rows of n weights that check takes: with a total of 1 to 4. */
    private static List<int[]> rows(int n) {
        List<int[]> rows = new ArrayList<>();
        for (int code = 0; code < power(5, n); code++) {
            int[] row = new int[n];
            int rest = code;
            for (int t = 0; t < n; t++) {
                row[t] = rest % 5;
                rest /= 5;
            }
            if (total(row) >= 1 && total(row) <= 4) {
                rows.add(row);
            }
        }
        return rows;
    }

    private static long power(int base, int exponent) {
        return exponent == 0 ? 1 : base * power(base, exponent - 1);
    }

    private static int total(int[] row) {
        int total = 0;
        for (int w : row) {
            total += w;
        }
        return total;
    }

    /** The chain with label 0 for PHI and label 1 for PSI, both still off, and an until over them. */
    private static MarkovChecker make(int bound, int[]... chain) {
        MarkovChecker m = new MarkovChecker(chain.length);
        for (int s = 0; s < chain.length; s++) {
            Sample.row(m, s, chain[s]);
        }
        m.addAtom(0);
        m.addAtom(1);
        due.same("index of the until node", m.addUntil(0, 1, bound), UNTIL);
        return m;
    }

    private static void give(MarkovChecker m, int phi, int psi) {
        for (int s = 0; s < m.stateCount(); s++) {
            m.setLabel(s, 0, (phi >> s & 1) == 1);
            m.setLabel(s, 1, (psi >> s & 1) == 1);
        }
        if (m.check() != MarkovChecker.OK) {
            due.same("check()", MarkovChecker.ERR_ROW, MarkovChecker.OK);
        }
    }

    /** The text is made only for a wrong answer, since there are millions of right ones. */
    private static void right(boolean holds, MarkovChecker m, int phi, int psi, int s) {
        if (!holds) {
            String where = Due.chain(m) + ", PHI " + phi + ", PSI " + psi + ", state " + s;
            due.same(where, m.probNum(UNTIL, s) + "/" + m.probDen(UNTIL, s), "another value");
        }
    }

    private static void everyUnbounded(int[]... chain) {
        MarkovChecker m = make(UNBOUNDED, chain);
        for (int phi = 0; phi < 1 << chain.length; phi++) {
            for (int psi = 0; psi < 1 << chain.length; psi++) {
                give(m, phi, psi);
                obeysSets(m, phi, psi, chain);
            }
        }
    }

    private static void obeysSets(MarkovChecker m, int phi, int psi, int[]... chain) {
        int zeros = ~reaching(psi, phi, chain);
        int failing = reaching(zeros, phi & ~psi, chain);
        long common = 1;
        due.of("promise 14", "at every state s the value is a reduced fraction with denominator >= 1");
        for (int s = 0; s < chain.length; s++) {
            long num = m.probNum(UNTIL, s);
            long den = m.probDen(UNTIL, s);
            right(num >= 0 && den >= 1 && divisor(num, den) == 1, m, phi, psi, s);
            common *= den / Math.max(1, divisor(common, den));
        }
        for (int s = 0; s < chain.length; s++) {
            if ((zeros >> s & 1) == 1) {
                due.of("promise 14", "the value is 0/1 on S0");
                right(part(m, s, common) == 0, m, phi, psi, s);
            } else if ((failing >> s & 1) == 0) {
                due.of("promise 14", "1/1 on S1");
                right(part(m, s, common) == common, m, phi, psi, s);
            } else {
                due.of("promise 14", "on every other state s equals exactly "
                    + "the sum over t of (w(s,t)/d(s)) * value(t)");
                long sum = 0;
                for (int t = 0; t < chain.length; t++) {
                    sum += chain[s][t] * part(m, t, common);
                }
                right(part(m, s, common) * total(chain[s]) == sum, m, phi, psi, s);
            }
        }
    }

    /** How many parts of the whole the value at s is. */
    private static long part(MarkovChecker m, int s, long whole) {
        return m.probNum(UNTIL, s) * (whole / Math.max(1, m.probDen(UNTIL, s)));
    }

    private static long divisor(long a, long b) {
        return b == 0 ? a : divisor(b, a % b);
    }

    /** The states with a sequence of moves through via into target, made longer until it finds no more. */
    private static int reaching(int target, int via, int[]... chain) {
        int found = target;
        for (int length = 1; length <= chain.length; length++) {
            int shorter = found;
            for (int s = 0; s < chain.length; s++) {
                for (int t = 0; t < chain.length; t++) {
                    if ((via >> s & 1) == 1 && chain[s][t] > 0 && (shorter >> t & 1) == 1) {
                        found |= 1 << s;
                    }
                }
            }
        }
        return found;
    }

    /** Takes every step-th pair of sets. */
    private static void everyBounded(int step, int[]... chain) {
        due.of("What it is", "The value at s is the exact probability of the paths for which some j >= 0 has");
        int sets = 1 << chain.length;
        for (int k = 0; k <= 8; k++) {
            MarkovChecker m = make(k, chain);
            for (int pair = 0; pair < sets * sets; pair += step) {
                int phi = pair / sets;
                int psi = pair % sets;
                give(m, phi, psi);
                for (int s = 0; s < chain.length; s++) {
                    long whole = power(12, k);
                    long paths = paths(s, k, phi, psi, whole, chain);
                    long num = m.probNum(UNTIL, s);
                    long den = m.probDen(UNTIL, s);
                    boolean reduced = den >= 1 && divisor(num, den) == 1;
                    right(reduced && num * whole == paths * den, m, phi, psi, s);
                }
            }
        }
    }

    /** The parts of those paths of at most k steps from s that keep to PHI until they are in PSI. */
    private static long paths(int s, int k, int phi, int psi, long parts, int[]... chain) {
        if ((psi >> s & 1) == 1) {
            return parts;
        }
        if ((phi >> s & 1) == 0 || k == 0) {
            return 0;
        }
        long sum = 0;
        for (int t = 0; t < chain.length; t++) {
            if (chain[s][t] > 0) {
                sum += paths(t, k - 1, phi, psi, parts * chain[s][t] / total(chain[s]), chain);
            }
        }
        return sum;
    }

    /** Rows whose moves go in steps over all twelve states, with totals 1 to 4, and sets of all sizes. */
    private static void twelveStates(int step) {
        int[][] chain = new int[12][12];
        for (int s = 0; s < 12; s++) {
            chain[s][(s + step) % 12]++;
            for (int more = 1; more <= s * step % 4; more++) {
                chain[s][(s * more + step * step) % 12]++;
            }
        }
        MarkovChecker m = make(UNBOUNDED, chain);
        for (int psi = 1; psi < 1 << 12; psi += 41) {
            int phi = ~(psi * 5 >> 3) & 0xfff;
            give(m, phi, psi);
            obeysSets(m, phi, psi, chain);
            give(m, 0xfff, psi & 0x111);
            obeysSets(m, 0xfff, psi & 0x111, chain);
        }
    }
}
