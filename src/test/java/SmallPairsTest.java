import java.util.ArrayList;
import java.util.List;

/**
 * Every automaton of up to two states in every other one: included() and the witness held against all lassos of up to
 * eight letters in their order. No pair of these needs a longer witness, so where no lasso tells the two apart, the
 * first is included.
 */
public final class SmallPairsTest extends Checks {
    /** Five automata against a sixth on each object, so that it stays under 512 calls. */
    private static final int AT_ONCE = 5;

    private final List<int[]> lassos = lassosInOrder();
    private final List<OracleTest.Plain> automata = new ArrayList<>();
    private final List<long[]> taken = new ArrayList<>();
    private int apart = 0;

    private static List<int[]> lassosInOrder() {
        List<int[]> lassos = new ArrayList<>();
        for (int letters = 1; letters <= 8; letters++) {
            for (int m = 0; m < letters; m++) {
                int n = letters - m;
                for (int word = 0; word < 1 << letters; word++) {
                    lassos.add(new int[] {m, word >> n, n, word & (1 << n) - 1});
                }
            }
        }
        return lassos;
    }

    private void addAutomata(int states) {
        int edges = 2 * states * states;
        for (int told = 0; told < 1 << edges + states; told++) {
            OracleTest.Plain plain = new OracleTest.Plain();
            plain.n = states;
            for (int bit = 0; bit < edges; bit++) {
                plain.edge[bit / 2 / states][bit % 2][bit / 2 % states] = (told >> bit & 1) != 0;
            }
            for (int s = 0; s < states; s++) {
                plain.good[s] = (told >> edges + s & 1) != 0;
            }
            automata.add(plain);
            taken.add(lassosOf(plain));
        }
    }

    private long[] lassosOf(OracleTest.Plain plain) {
        long[] bits = new long[lassos.size() + 63 >> 6];
        for (int i = 0; i < lassos.size(); i++) {
            int[] lasso = lassos.get(i);
            if (plain.takes(lasso[0], lasso[1], lasso[2], lasso[3])) {
                bits[i >> 6] |= 1L << (i & 63);
            }
        }
        return bits;
    }

    private static void build(OmegaDesk x, int automaton, OracleTest.Plain plain) {
        for (int s = 0; s < plain.n; s++) {
            x.state(automaton, plain.good[s]);
        }
        for (int f = 0; f < plain.n; f++) {
            for (int l = 0; l < 2; l++) {
                for (int t = 0; t < plain.n; t++) {
                    if (plain.edge[f][l][t]) {
                        x.edge(automaton, f, l, t);
                    }
                }
            }
        }
    }

    /** The place of the first lasso that one takes and the other does not, or -1. */
    private int firstApart(int a, int b) {
        long[] inner = taken.get(a);
        long[] outer = taken.get(b);
        for (int i = 0; i < inner.length; i++) {
            long left = inner[i] & ~outer[i];
            if (left != 0) {
                return 64 * i + Long.numberOfTrailingZeros(left);
            }
        }
        return -1;
    }

    private void hold(OmegaDesk x, int place, int a, int b) {
        int first = firstApart(a, b);
        boolean got = x.included(place, AT_ONCE);
        if (got != first < 0) {
            fault(a + " in " + b + " answered " + got);
        } else if (first < 0) {
            // Asked once a pair, since four exceptions for each of half a million pairs take their time.
            due(a + " in " + b + ": witness(0)", NONE, () -> x.witness(0));
        } else {
            apart++;
            int[] want = lassos.get(first);
            for (int what = 0; what < 4; what++) {
                if (x.witness(what) != want[what]) {
                    fault(a + " in " + b + ": witness(" + what + ") answered " + x.witness(what) + ", due is "
                        + want[what]);
                }
            }
        }
    }

    private void allPairs() {
        for (int b = 0; b < automata.size(); b++) {
            for (int first = 0; first < automata.size(); first += AT_ONCE) {
                OmegaDesk x = new OmegaDesk();
                build(x, AT_ONCE, automata.get(b));
                for (int a = first; a < first + AT_ONCE && a < automata.size(); a++) {
                    build(x, a - first, automata.get(a));
                    hold(x, a - first, a, b);
                }
            }
        }
    }

    public static void main(String[] args) {
        SmallPairsTest all = new SmallPairsTest();
        for (int states = 0; states <= 2; states++) {
            all.addAutomata(states);
        }
        all.allPairs();
        int count = all.automata.size();
        System.out.println(count + " automata, " + count * count + " pairs, " + all.apart + " not included");
        end();
    }
}
