/**
 * Counts the passages that each automaton of three states has, for the table of 1024 slots that included() keeps
 * them in: it must not get full, and it stays quick while most of it is free. Automata that differ only in the names
 * of their letters or states have as many, so half of the pairs of letters and four sets of good states stand for all.
 */
public final class PassageCountTest {
    private static final int MOST = 252;
    private static final int[] POWERS = {0, 1, 3, 4, 9, 10, 12, 13};
    private static final int[] GOOD_SETS = {0, 1, 3, 7};

    private final int[] seen = new int[27 * 27 * 27];
    private final int[] found = new int[27 * 27 * 27];
    private final int[][] next = new int[2][64];
    private int stamp = 0;

    /** A row is the set of ends with, three bits higher, the set of good ends. */
    private void prepare(int letter, int edges, int good) {
        for (int row = 0; row < 64; row++) {
            int ends = 0;
            int goodEnds = 0;
            for (int s = 0; s < 3; s++) {
                int targets = edges >> 3 * s & 7;
                ends |= (row >> s & 1) != 0 ? targets : 0;
                goodEnds |= (row >> 3 + s & 1) != 0 ? targets : 0;
            }
            next[letter][row] = ends | (goodEnds | ends & good) << 3;
        }
    }

    private int count() {
        stamp++;
        int size = add(1 | 2 << 6 | 4 << 12, 0);
        for (int i = 0; i < size; i++) {
            for (int letter = 0; letter < 2; letter++) {
                int p = found[i];
                size = add(next[letter][p & 63] | next[letter][p >> 6 & 63] << 6 | next[letter][p >> 12] << 12, size);
            }
        }
        return size;
    }

    private int add(int passage, int size) {
        int key = 0;
        for (int s = 2; s >= 0; s--) {
            int row = passage >> 6 * s & 63;
            key = key * 27 + POWERS[row & 7] + POWERS[row >> 3];
        }
        if (seen[key] == stamp) {
            return size;
        }
        seen[key] = stamp;
        found[size] = passage;
        return size + 1;
    }

    private int most() {
        int most = 0;
        for (int good : GOOD_SETS) {
            for (int e0 = 0; e0 < 512; e0++) {
                prepare(0, e0, good);
                for (int e1 = e0; e1 < 512; e1++) {
                    prepare(1, e1, good);
                    most = Math.max(most, count());
                }
            }
        }
        return most;
    }

    public static void main(String[] args) {
        int most = new PassageCountTest().most();
        System.out.println("the most passages of an automaton of three states: " + most);
        if (most != MOST) {
            System.exit(1);
        }
    }
}
