import java.util.ArrayDeque;
import java.util.ArrayList;
import java.util.Arrays;
import java.util.HashMap;
import java.util.List;
import java.util.Map;
import java.util.NoSuchElementException;
import java.util.Random;

/**
 * Runs of calls with a fixed seed, every answer held against a second program that goes other ways:
 * lassos by a graph of places and states, inclusion by complementing with ranks (Kupferman and Vardi),
 * witnesses by trying all lassos in their order.
 */
public final class OracleTest {
    /** What an object answers behind so many calls is free. */
    private static final int MOST_CALLS = 512;
    private static final int NO_ARGUMENT = -1_000_001;
    private static final int NO_STATE = -1_000_002;
    private static final int NO_ELEMENT = -1_000_003;

    /**
     * Pairs that are hard to tell: their witness has more than 8 letters or, in the last rows, many passages of the
     * second are to be looked at before a loop of the first. The targets, as bits, of states 0 to 3 of the first with
     * letters 0 and 1, those of states 0 to 2 of the second, then the good states of the first and of the second.
     */
    private static final int[][] HARD = {
        {4, 6, 8, 0, 0, 1, 0, 8, 6, 1, 2, 4, 0, 6, 10, 6},
        {0, 4, 8, 3, 12, 3, 2, 10, 3, 4, 1, 7, 7, 2, 4, 4},
        {0, 4, 6, 13, 12, 8, 8, 2, 1, 4, 0, 3, 5, 3, 3, 4},
        {2, 1, 5, 1, 12, 3, 7, 14, 3, 2, 4, 5, 1, 4, 14, 3},
        {0, 9, 1, 4, 4, 6, 0, 2, 2, 5, 0, 6, 4, 3, 9, 3},
        {2, 0, 0, 4, 12, 0, 1, 12, 7, 4, 5, 2, 3, 0, 3, 2},
        {0, 2, 8, 0, 2, 4, 13, 0, 1, 4, 5, 0, 5, 2, 1, 1},
        {2, 4, 0, 2, 4, 5, 1, 7, 2, 5, 0, 7, 4, 3, 10, 2},
        {2, 0, 2, 8, 4, 0, 1, 7, 7, 0, 5, 2, 1, 4, 4, 6},
        {0, 12, 0, 6, 2, 3, 8, 0, 4, 6, 1, 1, 3, 0, 8, 7},
        {0, 4, 2, 12, 2, 1, 9, 9, 3, 2, 3, 4, 4, 1, 8, 2},
        {4, 4, 14, 0, 7, 0, 4, 10, 2, 1, 7, 4, 3, 0, 1, 2},
        {2, 0, 0, 8, 4, 0, 0, 5, 2, 0, 4, 2, 1, 4, 4, 2},
        {1, 2, 8, 5, 2, 4, 12, 10, 4, 1, 1, 4, 2, 3, 1, 1},
        {1, 3, 2, 4, 12, 1, 4, 8, 4, 2, 1, 5, 2, 4, 8, 4},
        {2, 1, 1, 4, 4, 8, 12, 10, 4, 6, 1, 2, 2, 1, 1, 2},
        {1, 8, 10, 1, 3, 4, 13, 8, 4, 6, 4, 1, 1, 2, 2, 1},
        {12, 2, 2, 8, 1, 6, 10, 6, 1, 4, 4, 5, 7, 2, 1, 1},
        {14, 1, 6, 8, 11, 8, 1, 8, 7, 1, 4, 0, 1, 3, 2, 2},
        {2, 8, 4, 1, 12, 2, 14, 12, 5, 1, 4, 5, 1, 6, 1, 2},
        {8, 8, 2, 12, 5, 12, 8, 10, 3, 2, 1, 4, 4, 1, 1, 4},
        {3, 4, 11, 7, 1, 1, 12, 1, 3, 6, 4, 0, 1, 1, 8, 2},
        {13, 4, 8, 6, 0, 2, 9, 12, 2, 5, 4, 4, 3, 2, 1, 1},
        {4, 0, 1, 2, 15, 0, 13, 4, 6, 4, 1, 2, 2, 0, 8, 4},
    };

    /**
     * Automata of three states with many passages, 252 to 175: their edges with letter 0 and with letter 1, three bits
     * for each state, and the good states.
     */
    private static final int[][] RICH = {
        {98, 177, 1}, {98, 417, 1}, {116, 98, 2}, {98, 212, 1}, {140, 212, 2}, {98, 394, 1}, {98, 165, 1},
        {33, 172, 1}, {225, 98, 2}, {86, 98, 1}, {98, 270, 3}, {177, 98, 5}, {85, 98, 7}
    };

    private static int wrong = 0;
    private static int included = 0;
    private static int shortWitness = 0;
    private static int longWitness = 0;
    private static int eightLetters = 0;
    private static int taken = 0;
    private static int trimmedAway = 0;

    static final class Plain {
        int n = 0;
        boolean[] good = new boolean[4];
        boolean[][][] edge = new boolean[4][2][4];

        void clear() {
            n = 0;
            good = new boolean[4];
            edge = new boolean[4][2][4];
        }

        boolean leads(int from, int to) {
            boolean[] reached = new boolean[4];
            ArrayDeque<Integer> open = new ArrayDeque<>();
            open.add(from);
            while (!open.isEmpty()) {
                int s = open.remove();
                for (int l = 0; l < 2; l++) {
                    for (int t = 0; t < n; t++) {
                        if (edge[s][l][t] && !reached[t]) {
                            reached[t] = true;
                            open.add(t);
                        }
                    }
                }
            }
            return reached[to];
        }

        boolean useful(int s) {
            if (s != 0 && !leads(0, s)) {
                return false;
            }
            for (int t = 0; t < n; t++) {
                if (good[t] && leads(t, t) && (s == t || leads(s, t))) {
                    return true;
                }
            }
            return false;
        }

        boolean takes(int m, int u, int k, int v) {
            if (n == 0) {
                return false;
            }
            int places = m + k;
            boolean[] reached = reach(m, u, k, v, 0, 0);
            reached[0] = true;
            for (int node = 0; node < places * 4; node++) {
                if (reached[node] && good[node % 4] && reach(m, u, k, v, node / 4, node % 4)[node]) {
                    return true;
                }
            }
            return false;
        }

        /** Nodes place * 4 + state that one or more steps lead to. */
        private boolean[] reach(int m, int u, int k, int v, int place, int state) {
            boolean[] reached = new boolean[(m + k) * 4];
            ArrayDeque<Integer> open = new ArrayDeque<>();
            open.add(place * 4 + state);
            while (!open.isEmpty()) {
                int node = open.remove();
                int p = node / 4;
                int letter = p < m ? u >> (m - 1 - p) & 1 : v >> (k - 1 - (p - m)) & 1;
                int next = p + 1 == m + k ? m : p + 1;
                for (int t = 0; t < n; t++) {
                    if (edge[node % 4][letter][t] && !reached[next * 4 + t]) {
                        reached[next * 4 + t] = true;
                        open.add(next * 4 + t);
                    }
                }
            }
            return reached;
        }
    }

    /** The automaton that takes what a takes and b does not; b's complement guesses ranks. */
    static final class Difference {
        private final Plain a;
        private final Plain b;
        private final Map<Integer, Integer> numbers = new HashMap<>();
        private final List<int[]> nodes = new ArrayList<>();
        private final List<int[]> targets = new ArrayList<>();

        Difference(Plain a, Plain b) {
            this.a = a;
            this.b = b;
        }

        boolean isEmpty() {
            if (a.n == 0) {
                return true;
            }
            int[] start = {0, -1, -1, -1, 0};
            if (b.n > 0) {
                start[1] = 2 * b.n;
            }
            number(start);
            for (int i = 0; i < nodes.size(); i++) {
                targets.add(expand(nodes.get(i)));
            }
            return !hasFairComponent();
        }

        private int number(int[] node) {
            int key = node[0];
            for (int q = 0; q < 3; q++) {
                key = key * 8 + node[1 + q] + 1;
            }
            key = key * 8 + node[4];
            Integer known = numbers.get(key);
            if (known != null) {
                return known;
            }
            numbers.put(key, nodes.size());
            nodes.add(node.clone());
            return nodes.size() - 1;
        }

        private int[] expand(int[] node) {
            List<Integer> found = new ArrayList<>();
            for (int l = 0; l < 2; l++) {
                int[] most = {-1, -1, -1};
                int owedTargets = 0;
                for (int q = 0; q < b.n; q++) {
                    for (int t = 0; t < b.n; t++) {
                        if (node[1 + q] >= 0 && b.edge[q][l][t]) {
                            most[t] = most[t] < 0 ? node[1 + q] : Math.min(most[t], node[1 + q]);
                            if ((node[4] >> q & 1) != 0) {
                                owedTargets |= 1 << t;
                            }
                        }
                    }
                }
                for (int p = 0; p < a.n; p++) {
                    if (a.edge[node[0]][l][p]) {
                        guess(new int[] {p, -1, -1, -1, 0}, 0, most, node[4] == 0 ? 7 : owedTargets, found);
                    }
                }
            }
            int[] result = new int[found.size()];
            for (int i = 0; i < result.length; i++) {
                result[i] = found.get(i);
            }
            return result;
        }

        private void guess(int[] node, int q, int[] most, int owed, List<Integer> found) {
            if (q == 3) {
                int set = 0;
                for (int t = 0; t < 3; t++) {
                    if (node[1 + t] >= 0 && node[1 + t] % 2 == 0 && (owed >> t & 1) != 0) {
                        set |= 1 << t;
                    }
                }
                node[4] = set;
                found.add(number(node));
                return;
            }
            if (most[q] < 0) {
                node[1 + q] = -1;
                guess(node, q + 1, most, owed, found);
                return;
            }
            for (int r = 0; r <= most[q]; r++) {
                if (!(b.good[q] && r % 2 == 1)) {
                    node[1 + q] = r;
                    guess(node, q + 1, most, owed, found);
                }
            }
        }

        /** Takes nodes away that reach no good inner state or no paid node by one step or more, until none goes. */
        private boolean hasFairComponent() {
            int n = nodes.size();
            int[] in = new int[n];
            for (int[] row : targets) {
                for (int t : row) {
                    in[t]++;
                }
            }
            int[][] sources = new int[n][];
            for (int i = 0; i < n; i++) {
                sources[i] = new int[in[i]];
            }
            for (int i = 0; i < n; i++) {
                for (int t : targets.get(i)) {
                    sources[t][--in[t]] = i;
                }
            }
            boolean[] alive = new boolean[n];
            Arrays.fill(alive, true);
            int left = n;
            while (true) {
                int before = left;
                for (int kind = 0; kind < 2; kind++) {
                    boolean[] stay = before(alive, sources, kind);
                    left = 0;
                    for (int i = 0; i < n; i++) {
                        alive[i] = alive[i] && stay[i];
                        left += alive[i] ? 1 : 0;
                    }
                }
                if (left == before) {
                    return left > 0;
                }
            }
        }

        private boolean[] before(boolean[] alive, int[][] sources, int kind) {
            int n = alive.length;
            boolean[] reached = new boolean[n];
            int[] open = new int[2 * n];
            int size = 0;
            for (int i = 0; i < n; i++) {
                int[] node = nodes.get(i);
                if (alive[i] && (kind == 0 ? a.good[node[0]] : node[4] == 0)) {
                    open[size++] = i;
                }
            }
            for (int next = 0; next < size; next++) {
                for (int s : sources[open[next]]) {
                    if (alive[s] && !reached[s]) {
                        reached[s] = true;
                        open[size++] = s;
                    }
                }
            }
            return reached;
        }
    }

    static final class Model {
        final Plain[] all = new Plain[6];
        int[] witness = null;
        int calls = 0;

        Model() {
            for (int i = 0; i < 6; i++) {
                all[i] = new Plain();
            }
        }

        boolean no(int automaton) {
            return automaton < 0 || automaton > 5;
        }

        boolean noPlaces(int automaton, int from, int letter, int to) {
            return no(automaton) || from < 0 || from >= all[automaton].n || to < 0 || to >= all[automaton].n
                || letter < 0 || letter > 1;
        }

        int unite(int a, int b, int c) {
            if (no(a) || no(b) || no(c) || a == b || b == c || a == c) {
                return NO_ARGUMENT;
            }
            if (all[a].n + all[b].n > 3) {
                return NO_STATE;
            }
            Plain r = new Plain();
            r.n = 1;
            for (int which = 0; which < 2; which++) {
                Plain part = all[which == 0 ? a : b];
                for (int f = 0; f < part.n; f++) {
                    r.good[r.n + f] = part.good[f];
                    for (int l = 0; l < 2; l++) {
                        for (int t = 0; t < part.n; t++) {
                            r.edge[r.n + f][l][r.n + t] = part.edge[f][l][t];
                            if (f == 0 && part.edge[0][l][t]) {
                                r.edge[0][l][r.n + t] = true;
                            }
                        }
                    }
                }
                r.n += part.n;
            }
            all[c] = r;
            return r.n;
        }

        int trim(int automaton) {
            if (no(automaton)) {
                return NO_ARGUMENT;
            }
            Plain old = all[automaton];
            Plain r = new Plain();
            int[] place = {-1, -1, -1, -1};
            for (int s = 0; s < old.n; s++) {
                if (old.useful(s)) {
                    place[s] = r.n;
                    r.good[r.n++] = old.good[s];
                }
            }
            for (int f = 0; f < old.n; f++) {
                for (int l = 0; l < 2; l++) {
                    for (int t = 0; t < old.n; t++) {
                        if (place[f] >= 0 && place[t] >= 0) {
                            r.edge[place[f]][l][place[t]] = old.edge[f][l][t];
                        }
                    }
                }
            }
            all[automaton] = r;
            trimmedAway += old.n - r.n;
            return r.n;
        }

        int included(int a, int b) {
            if (no(a) || no(b)) {
                return NO_ARGUMENT;
            }
            if (all[b].n == 4) {
                return NO_STATE;
            }
            witness = null;
            if (new Difference(all[a], all[b]).isEmpty()) {
                included++;
                return 1;
            }
            witness = firstLasso(all[a], all[b]);
            if (witness == null) {
                longWitness++;
            } else {
                shortWitness++;
            }
            return 0;
        }

        static int[] firstLasso(Plain a, Plain b) {
            for (int letters = 1; letters <= 8; letters++) {
                for (int m = 0; m < letters; m++) {
                    int k = letters - m;
                    for (int w = 0; w < 1 << letters; w++) {
                        int u = w >> k;
                        int v = w & (1 << k) - 1;
                        if (a.takes(m, u, k, v) && !b.takes(m, u, k, v)) {
                            return new int[] {m, u, k, v};
                        }
                    }
                }
            }
            return null;
        }

        /** Answers one call, a boolean as 1 or 0, a void as 0. */
        int answer(int call, int[] x) {
            switch (call) {
                case 0:
                    if (no(x[0])) return NO_ARGUMENT;
                    if (all[x[0]].n == 4) return NO_STATE;
                    all[x[0]].good[all[x[0]].n] = (x[1] & 1) != 0;
                    return all[x[0]].n++;
                case 1:
                    if (noPlaces(x[0], x[1], x[2], x[3])) return NO_ARGUMENT;
                    boolean was = all[x[0]].edge[x[1]][x[2]][x[3]];
                    all[x[0]].edge[x[1]][x[2]][x[3]] = true;
                    return was ? 0 : 1;
                case 2:
                    if (no(x[0])) return NO_ARGUMENT;
                    all[x[0]].clear();
                    return 0;
                case 3: return unite(x[0], x[1], x[2]);
                case 4: return trim(x[0]);
                case 5:
                    if (no(x[0])) return NO_ARGUMENT;
                    return all[x[0]].n > 0 && all[x[0]].useful(0) ? 0 : 1;
                case 6:
                    if (no(x[0]) || x[1] < 0 || x[1] > 8 || x[3] < 1 || x[3] > 8 || x[2] < 0 || x[4] < 0
                        || x[2] >= 1 << x[1] || x[4] >= 1 << x[3]) return NO_ARGUMENT;
                    boolean takes = all[x[0]].takes(x[1], x[2], x[3], x[4]);
                    taken += takes ? 1 : 0;
                    return takes ? 1 : 0;
                case 7: return included(x[0], x[1]);
                case 8:
                    if (x[0] < 0 || x[0] > 3) return NO_ARGUMENT;
                    return witness == null ? NO_ELEMENT : witness[x[0]];
                case 9: return no(x[0]) ? NO_ARGUMENT : all[x[0]].n;
                case 10:
                    if (no(x[0]) || x[1] < 0 || x[1] >= all[x[0]].n) return NO_ARGUMENT;
                    return all[x[0]].good[x[1]] ? 1 : 0;
                default:
                    if (noPlaces(x[0], x[1], x[2], x[3])) return NO_ARGUMENT;
                    return all[x[0]].edge[x[1]][x[2]][x[3]] ? 1 : 0;
            }
        }
    }

    private static int real(OmegaDesk desk, int call, int[] x) {
        try {
            switch (call) {
                case 0: return desk.state(x[0], (x[1] & 1) != 0);
                case 1: return desk.edge(x[0], x[1], x[2], x[3]) ? 1 : 0;
                case 2: desk.clear(x[0]); return 0;
                case 3: return desk.unite(x[0], x[1], x[2]);
                case 4: return desk.trim(x[0]);
                case 5: return desk.empty(x[0]) ? 1 : 0;
                case 6: return desk.takes(x[0], x[1], x[2], x[3], x[4]) ? 1 : 0;
                case 7: return desk.included(x[0], x[1]) ? 1 : 0;
                case 8: return desk.witness(x[0]);
                case 9: return desk.states(x[0]);
                case 10: return desk.good(x[0], x[1]) ? 1 : 0;
                default: return desk.has(x[0], x[1], x[2], x[3]) ? 1 : 0;
            }
        } catch (IllegalArgumentException e) {
            return NO_ARGUMENT;
        } catch (IllegalStateException e) {
            return NO_STATE;
        } catch (NoSuchElementException e) {
            return NO_ELEMENT;
        }
    }

    private static int check(int run, OmegaDesk desk, Model model, int call, int... x) {
        if (model.calls == MOST_CALLS) {
            return 0;
        }
        model.calls++;
        int due = model.answer(call, x);
        int got = real(desk, call, x);
        if (got != due) {
            wrong++;
            System.out.println("run " + run + ": call " + call + " with " + Arrays.toString(x) + " answered " + got
                + ", due is " + due);
        }
        return due;
    }

    private static void checkAll(int run, OmegaDesk desk, Model model, int automaton) {
        int n = check(run, desk, model, 9, automaton);
        for (int f = 0; f < n; f++) {
            check(run, desk, model, 10, automaton, f);
            for (int t = 0; t < n; t++) {
                check(run, desk, model, 11, automaton, f, 0, t);
                check(run, desk, model, 11, automaton, f, 1, t);
            }
        }
    }

    private static int near(Random random, int least, int most) {
        if (random.nextInt(40) == 0) {
            int[] odd = {least - 1, most + 1, Integer.MIN_VALUE, Integer.MAX_VALUE};
            return odd[random.nextInt(4)];
        }
        return least + random.nextInt(most - least + 1);
    }

    private static void mixedRun(int run, Random random) {
        OmegaDesk desk = new OmegaDesk();
        Model model = new Model();
        while (model.calls < MOST_CALLS) {
            int a = near(random, 0, 5);
            int kind = random.nextInt(100);
            if (kind < 15) {
                check(run, desk, model, 0, a, random.nextInt(2));
            } else if (kind < 50) {
                int n = model.no(a) ? 1 : Math.max(1, model.all[a].n);
                check(run, desk, model, 1, a, near(random, 0, n - 1), near(random, 0, 1), near(random, 0, n - 1));
            } else if (kind < 53) {
                check(run, desk, model, 2, a);
            } else if (kind < 56) {
                int c = near(random, 0, 5);
                check(run, desk, model, 3, a, near(random, 0, 5), c);
                if (!model.no(c)) {
                    checkAll(run, desk, model, c);
                }
            } else if (kind < 59) {
                check(run, desk, model, 4, a);
                if (!model.no(a)) {
                    checkAll(run, desk, model, a);
                }
            } else if (kind < 65) {
                check(run, desk, model, 5, a);
            } else if (kind < 80) {
                int m = near(random, 0, 8);
                int k = near(random, 1, 8);
                check(run, desk, model, 6, a, m, near(random, 0, (1 << Math.min(8, Math.max(0, m))) - 1), k,
                    near(random, 0, (1 << Math.min(8, Math.max(0, k))) - 1));
            } else if (kind < 86) {
                check(run, desk, model, 7, a, near(random, 0, 5));
                allWitness(run, desk, model);
            } else if (kind < 92) {
                check(run, desk, model, 8, near(random, 0, 3));
            } else {
                int n = model.no(a) ? 1 : Math.max(1, model.all[a].n);
                check(run, desk, model, 9, a);
                check(run, desk, model, 10, a, near(random, 0, n - 1));
                check(run, desk, model, 11, a, near(random, 0, n - 1), near(random, 0, 1), near(random, 0, n - 1));
            }
        }
    }

    private static void allWitness(int run, OmegaDesk desk, Model model) {
        for (int what = 0; what < 4; what++) {
            check(run, desk, model, 8, what);
        }
    }

    /** A richer and a poorer automaton, so that inclusion is often near. */
    private static void pairRun(int run, Random random) {
        OmegaDesk desk = new OmegaDesk();
        Model model = new Model();
        int n0 = 1 + random.nextInt(4);
        int n1 = 1 + random.nextInt(3);
        fill(run, random, desk, model, 0, n0, 10 + random.nextInt(30));
        fill(run, random, desk, model, 1, n1, 30 + random.nextInt(60));
        check(run, desk, model, 7, 0, 1);
        allWitness(run, desk, model);
        check(run, desk, model, 7, 1, 0);
        allWitness(run, desk, model);
    }

    private static void fill(int run, Random random, OmegaDesk desk, Model model, int automaton, int n, int percent) {
        for (int s = 0; s < n; s++) {
            check(run, desk, model, 0, automaton, random.nextInt(2));
        }
        for (int f = 0; f < n; f++) {
            for (int l = 0; l < 2; l++) {
                for (int t = 0; t < n; t++) {
                    if (random.nextInt(100) < percent) {
                        check(run, desk, model, 1, automaton, f, l, t);
                    }
                }
            }
        }
    }

    /** One of the pairs that are hard to tell, with some edges or good states turned over. */
    private static void nearHardRun(int run, Random random) {
        int[] pair = HARD[run % HARD.length].clone();
        int turns = random.nextInt(4);
        for (int i = 0; i < turns; i++) {
            int row = random.nextInt(16);
            pair[row] ^= 1 << random.nextInt(row < 8 || row == 14 ? 4 : 3);
        }
        OmegaDesk desk = new OmegaDesk();
        Model model = new Model();
        build(run, desk, model, 0, pair, 0, 4, pair[14]);
        build(run, desk, model, 1, pair, 8, 3, pair[15]);
        check(run, desk, model, 7, 0, 1);
        allWitness(run, desk, model);
        if (model.witness != null && model.witness[0] + model.witness[2] == 8) {
            eightLetters++;
        }
    }

    /** One of those with many passages, and near it one in which a fourth state stands in for another. */
    private static void nearCopyRun(int run, Random random) {
        int[] rich = RICH[run % RICH.length];
        int[] pair = new int[14];
        int twin = random.nextInt(3);
        int turned = random.nextInt(16);
        for (int row = 0; row < 8; row++) {
            int from = row / 2 == 3 ? twin : row / 2;
            int targets = rich[row % 2] >> 3 * from & 7;
            pair[row] = targets;
            if ((targets >> twin & 1) != 0 && (turned >> row / 2 & 1) != 0) {
                pair[row] = targets & ~(1 << twin) | 8;
            }
            if (row < 6) {
                pair[8 + row] = targets;
            }
        }
        int good = rich[2] | (rich[2] >> twin & 1) << 3;
        for (int turns = random.nextInt(3); turns > 0; turns--) {
            pair[random.nextInt(8)] ^= 1 << random.nextInt(4);
        }
        OmegaDesk desk = new OmegaDesk();
        Model model = new Model();
        build(run, desk, model, 0, pair, 0, 4, good);
        build(run, desk, model, 1, pair, 8, 3, rich[2]);
        check(run, desk, model, 7, 0, 1);
        allWitness(run, desk, model);
    }

    private static void build(int run, OmegaDesk desk, Model model, int automaton, int[] rows, int first, int n,
        int good) {
        for (int s = 0; s < n; s++) {
            check(run, desk, model, 0, automaton, good >> s & 1);
        }
        for (int f = 0; f < n; f++) {
            for (int l = 0; l < 2; l++) {
                for (int t = 0; t < n; t++) {
                    if ((rows[first + 2 * f + l] >> t & 1) != 0) {
                        check(run, desk, model, 1, automaton, f, l, t);
                    }
                }
            }
        }
    }

    private static void mustHappen(String what, int times) {
        if (times < 5) {
            wrong++;
            System.out.println(what + " came up only " + times + " times");
        }
    }

    public static void main(String[] args) {
        int factor = args.length > 0 ? Integer.parseInt(args[0]) : 1;
        Random random = new Random(args.length > 1 ? Long.parseLong(args[1]) : 20261115L);
        for (int run = 0; run < 80 * factor; run++) {
            mixedRun(run, random);
        }
        for (int run = 10000; run < 10000 + 1500 * factor; run++) {
            pairRun(run, random);
        }
        for (int run = 20000; run < 20000 + 960 * factor; run++) {
            nearHardRun(run, random);
        }
        for (int run = 30000; run < 30000 + 260 * factor; run++) {
            nearCopyRun(run, random);
        }
        mustHappen("an inclusion that holds", included);
        mustHappen("a witness of at most 8 letters", shortWitness);
        mustHappen("a witness of more than 8 letters", longWitness);
        mustHappen("a witness of just 8 letters", eightLetters);
        mustHappen("a lasso that is taken", taken);
        mustHappen("a state that trim takes out", trimmedAway);
        System.out.println("included " + included + ", with witness " + shortWitness + ", with a long one "
            + longWitness + ", with one of 8 letters "
            + eightLetters + ", taken " + taken + ", trimmed away " + trimmedAway);
        System.out.println(wrong == 0 ? "all answers are as due" : wrong + " answers are not as due");
        if (wrong != 0) {
            System.exit(1);
        }
    }
}
