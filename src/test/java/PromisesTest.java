/** Promise by promise: ordinary calls, the edges that the document names, and wrong inputs. */
public final class PromisesTest extends Checks {
    private static void newObject() {
        OmegaDesk x = new OmegaDesk();
        for (int i = 0; i < 6; i++) {
            int a = i;
            due("1: states(" + a + ")", 0, () -> x.states(a));
            due("1: empty(" + a + ")", true, () -> x.empty(a));
            due("1: takes(" + a + ")", false, () -> x.takes(a, 0, 0, 1, 0));
            due("1: included(" + a + ", 0)", true, () -> x.included(a, 0));
        }
        noWitness("1", new OmegaDesk());
    }

    private static void state() {
        OmegaDesk x = new OmegaDesk();
        for (int i = 0; i < 4; i++) {
            int s = i;
            due("2: state number " + s, s, () -> x.state(5, s % 2 == 1));
            due("2: good " + s, s % 2 == 1, () -> x.good(5, s));
        }
        full("2: a fifth state", () -> x.state(5, true));
        due("2: states after it", 4, () -> x.states(5));
        due("2: another automaton", 0, () -> x.state(4, true));
        due("2: after clear", 0, () -> { x.clear(5); return x.state(5, false); });
        due("2: good is not left over", false, () -> x.good(5, 0));
        for (int a : NO_AUTOMATON) {
            refused("2: state(" + a + ")", () -> x.state(a, true));
        }
    }

    private static void edge() {
        OmegaDesk x = new OmegaDesk();
        refused("3: no states yet", () -> x.edge(0, 0, 0, 0));
        build(x, 0, "g--");
        due("3: new", true, () -> x.edge(0, 1, 0, 2));
        due("3: again", false, () -> x.edge(0, 1, 0, 2));
        due("3: the other letter", true, () -> x.edge(0, 1, 1, 2));
        due("3: the other way", true, () -> x.edge(0, 2, 0, 1));
        due("3: two with one letter", true, () -> x.edge(0, 1, 0, 1));
        for (int bad : new int[] {-1, 3, 4, 31, 32, Integer.MIN_VALUE, Integer.MAX_VALUE}) {
            refused("3: from " + bad, () -> x.edge(0, bad, 0, 0));
            refused("3: to " + bad, () -> x.edge(0, 0, 0, bad));
        }
        for (int bad : new int[] {-1, 2, Integer.MIN_VALUE, Integer.MAX_VALUE}) {
            refused("3: letter " + bad, () -> x.edge(0, 0, bad, 0));
        }
        for (int a : NO_AUTOMATON) {
            refused("3: edge(" + a + ")", () -> x.edge(a, 0, 0, 0));
        }
        due("3: what stands", "g-- 101 102 112 201", () -> told(x, 0));
    }

    private static void clear() {
        OmegaDesk x = new OmegaDesk();
        build(x, 0, "gg 000 010 001");
        build(x, 1, "g 000");
        x.clear(0);
        due("4: states", 0, () -> x.states(0));
        due("4: empty", true, () -> x.empty(0));
        build(x, 2, "");
        x.state(0, true);
        due("4: edges are gone", "g", () -> told(x, 0));
        due("4: the other stays", "g 000", () -> told(x, 1));
        x.included(1, 0);
        x.clear(0);
        x.clear(1);
        witness("4: the witness stays", x, 0, 0, 1, 0);
        for (int a : NO_AUTOMATON) {
            refused("4: clear(" + a + ")", () -> { x.clear(a); return 0; });
        }
    }

    private static void unite() {
        OmegaDesk x = new OmegaDesk();
        build(x, 0, "g 000");
        build(x, 1, "-g 011 101 110");
        build(x, 2, "gggg 000 311");
        due("5: three and one", 4, () -> x.unite(0, 1, 2));
        due("5: the union", "-g-g 001 013 101 213 303 312", () -> told(x, 2));
        due("5: other order", 4, () -> x.unite(1, 0, 3));
        due("5: the other union", "--gg 003 012 112 202 211 303", () -> told(x, 3));
        due("5: a stays", "g 000", () -> told(x, 0));
        due("5: b stays", "-g 011 101 110", () -> told(x, 1));
        due("5: one has no states", 2, () -> x.unite(0, 5, 4));
        due("5: that union", "-g 001 101", () -> told(x, 4));
        due("5: the other has none", 2, () -> x.unite(5, 0, 4));
        due("5: that union too", "-g 001 101", () -> told(x, 4));
        x.clear(4);
        due("5: neither has states", 1, () -> x.unite(4, 5, 3));
        due("5: one state alone", "-", () -> told(x, 3));
        build(x, 3, "ggg");
        full("5: five states", () -> x.unite(0, 3, 4));
        build(x, 4, "gggg");
        full("5: five states of one", () -> x.unite(4, 5, 1));
        due("5: c stays when it is refused", "-g 011 101 110", () -> told(x, 1));
        refused("5: a is b, though too many", () -> x.unite(4, 4, 1));
        refused("5: a is b", () -> x.unite(0, 0, 1));
        refused("5: a is c", () -> x.unite(0, 1, 0));
        refused("5: b is c", () -> x.unite(0, 1, 1));
        for (int a : NO_AUTOMATON) {
            refused("5: a " + a, () -> x.unite(a, 0, 1));
            refused("5: b " + a, () -> x.unite(0, a, 1));
            refused("5: c " + a, () -> x.unite(0, 1, a));
            refused("5: c, though too many " + a, () -> x.unite(4, 3, a));
        }
    }

    private static void trim() {
        OmegaDesk x = new OmegaDesk();
        due("6: no states", 0, () -> x.trim(0));
        build(x, 0, "-g-g 011 101 002 202 303");
        due("6: one dead, one not reached", 2, () -> x.trim(0));
        due("6: what is left", "-g 011 101", () -> told(x, 0));
        build(x, 0, "--g- 003 012 202 213 312 303");
        due("6: a gap in the middle", 3, () -> x.trim(0));
        due("6: they keep their order", "-g- 002 011 101 112 202 211", () -> told(x, 0));
        build(x, 0, "g- 001 101");
        due("6: good, but leads not to itself", 0, () -> x.trim(0));
        due("6: state 0 goes, all go", "", () -> told(x, 0));
        build(x, 0, "-g 101 111");
        due("6: no way from state 0", 0, () -> x.trim(0));
        build(x, 0, "-g-g 001 102 200 013");
        due("6: a long way to itself", 3, () -> x.trim(0));
        due("6: without the end", "-g- 001 102 200", () -> told(x, 0));
        build(x, 0, "g 010");
        due("6: nothing to go", 1, () -> x.trim(0));
        due("6: it stays", "g 010", () -> told(x, 0));
        for (int a : NO_AUTOMATON) {
            refused("6: trim(" + a + ")", () -> x.trim(a));
        }
    }

    private static void empty() {
        OmegaDesk x = new OmegaDesk();
        due("7: no states", true, () -> x.empty(0));
        build(x, 0, "g");
        due("7: no edges", true, () -> x.empty(0));
        build(x, 0, "- 000 010");
        due("7: no good state", true, () -> x.empty(0));
        build(x, 0, "g- 001 101");
        due("7: good just once", true, () -> x.empty(0));
        build(x, 0, "-g 101 100");
        due("7: good not reached", true, () -> x.empty(0));
        build(x, 0, "---g 001 112 203 310");
        due("7: a cycle of four", false, () -> x.empty(0));
        due("7: it is as it was", "---g 001 112 203 310", () -> told(x, 0));
        for (int a : NO_AUTOMATON) {
            refused("7: empty(" + a + ")", () -> x.empty(a));
        }
    }

    private static void takes() {
        OmegaDesk x = new OmegaDesk();
        build(x, 0, "-g 000 010 011 111");
        due("8: ones at the end", true, () -> x.takes(0, 8, 0b10100100, 8, 255));
        due("8: a nought again and again", false, () -> x.takes(0, 8, 255, 8, 254));
        build(x, 0, "-g 000 011 100 111");
        due("8: a one again and again", true, () -> x.takes(0, 0, 0, 8, 1));
        due("8: only noughts behind u", false, () -> x.takes(0, 8, 255, 8, 0));
        build(x, 0, "--g 011 102 202");
        due("8: the first letter is the highest bit", true, () -> x.takes(0, 2, 2, 1, 0));
        due("8: not the lowest", false, () -> x.takes(0, 2, 1, 1, 0));
        due("8: in v too", false, () -> x.takes(0, 0, 0, 2, 1));
        build(x, 0, "g-- 001 112 200");
        due("8: v three times", true, () -> x.takes(0, 0, 0, 3, 2));
        due("8: v wrapped", true, () -> x.takes(0, 2, 1, 3, 1));
        due("8: v of other length", false, () -> x.takes(0, 0, 0, 2, 1));
        build(x, 0, "g-- 001 102 200");
        due("8: a cycle that v does not fit", true, () -> x.takes(0, 0, 0, 2, 0));
        build(x, 0, "g- 001 101");
        due("8: good at the beginning alone", false, () -> x.takes(0, 0, 0, 1, 0));
        due("8: no states", false, () -> x.takes(1, 8, 0, 8, 0));
        for (int bad : new int[] {-1, 9, 32, Integer.MIN_VALUE, Integer.MAX_VALUE}) {
            refused("8: m " + bad, () -> x.takes(0, bad, 0, 1, 0));
            refused("8: n " + bad, () -> x.takes(0, 0, 0, bad, 0));
        }
        refused("8: n 0", () -> x.takes(0, 0, 0, 0, 0));
        for (int i = 0; i <= 8; i++) {
            int n = i;
            refused("8: u of more bits than " + n, () -> x.takes(0, n, 1 << n, 1, 0));
            refused("8: u below 0", () -> x.takes(0, n, -1, 1, 0));
            refused("8: v of more bits than " + n, () -> x.takes(0, 0, 0, n, 1 << n));
            refused("8: v below 0", () -> x.takes(0, 0, 0, n, -1));
        }
        for (int a : NO_AUTOMATON) {
            refused("8: takes(" + a + ")", () -> x.takes(a, 0, 0, 1, 0));
        }
    }

    private static void included() {
        OmegaDesk x = new OmegaDesk();
        build(x, 0, "g 000 010");
        build(x, 1, "-g 000 010 011 111");
        build(x, 2, "-g 000 011 100 111");
        due("9: ones at the end, ones again and again", true, () -> x.included(1, 2));
        due("9: not back", false, () -> x.included(2, 1));
        due("9: in all", true, () -> x.included(2, 0));
        due("9: all in", false, () -> x.included(0, 2));
        due("9: in itself", true, () -> x.included(2, 2));
        due("9: nothing in nothing", true, () -> x.included(4, 5));
        due("9: nothing in all", true, () -> x.included(5, 0));
        due("9: all in nothing", false, () -> x.included(0, 5));
        build(x, 3, "- 000 010");
        due("9: all in an empty one", false, () -> x.included(0, 3));
        due("9: an empty one in nothing", true, () -> x.included(3, 5));
        build(x, 3, "-gg 001 012 101 102 111 112 201 202 211 212");
        due("9: all in three states", true, () -> x.included(0, 3));
        build(x, 3, "gggg 000 010");
        due("9: four states inside", true, () -> x.included(3, 0));
        full("9: four states outside", () -> x.included(0, 3));
        full("9: nothing in four states", () -> x.included(5, 3));
        full("9: four states in themselves", () -> x.included(3, 3));
        for (int a : NO_AUTOMATON) {
            refused("9: a " + a, () -> x.included(a, 0));
            refused("9: b " + a, () -> x.included(0, a));
            refused("9: a, though b has four " + a, () -> x.included(a, 3));
        }
        due("9: they are as they were", "-g 000 010 011 111", () -> told(x, 1));
    }

    private static void witness() {
        OmegaDesk x = new OmegaDesk();
        noWitness("10: none yet", x);
        build(x, 0, "g 000 010");
        build(x, 1, "-g 000 010 011 111");
        build(x, 2, "-g 000 011 100 111");
        x.included(0, 1);
        witness("10: v alone", x, 0, 0, 1, 0);
        x.included(2, 1);
        witness("10: the least number", x, 0, 0, 2, 1);
        x.included(1, 2);
        noWitness("10: the latest answered true", x);
        build(x, 3, "---g 001 112 213 303");
        x.included(3, 4);
        witness("10: u is needed", x, 3, 3, 1, 0);
        build(x, 3, "---g 001 102 213 303");
        x.included(3, 4);
        witness("10: noughts before", x, 3, 1, 1, 0);
        build(x, 3, "-g 011 101 110");
        x.included(3, 4);
        witness("10: fewest letters before fewest in u", x, 0, 0, 1, 1);
        build(x, 3, "-g 011 100");
        x.included(3, 4);
        witness("10: fewest in u", x, 0, 0, 2, 2);
        build(x, 5, "gggg");
        full("10: a refused call", () -> x.included(0, 5));
        refused("10: another refused call", () -> x.included(0, 6));
        x.clear(3);
        x.trim(0);
        witness("10: refused calls and changes leave it", x, 0, 0, 2, 2);
        longWitness(x);
        for (int bad : new int[] {-1, 4, Integer.MIN_VALUE, Integer.MAX_VALUE}) {
            refused("10: witness(" + bad + ")", () -> x.witness(bad));
            refused("10: witness(" + bad + ") when there is none", () -> new OmegaDesk().witness(bad));
        }
    }

    private static void longWitness(OmegaDesk x) {
        // The first takes rows of 01 and 11 with 1 0 1 1 1 .. behind them; the least that the second lacks of
        // these has nine letters.
        build(x, 0, "-g-g 002 011 012 103 210 313");
        build(x, 1, "-gg 001 002 010 101 112 211 212");
        due("10: not included", false, () -> x.included(0, 1));
        noWitness("10: more than 8 letters", x);
        due("10: the first takes nine letters", true, () -> x.takes(0, 8, 0b01010110, 1, 1));
        due("10: the second does not", false, () -> x.takes(1, 8, 0b01010110, 1, 1));
    }

    private static void readers() {
        OmegaDesk x = new OmegaDesk();
        build(x, 5, "-g 011");
        due("11: states", 2, () -> x.states(5));
        due("11: of another", 0, () -> x.states(0));
        due("12: not good", false, () -> x.good(5, 0));
        due("12: good", true, () -> x.good(5, 1));
        due("13: there", true, () -> x.has(5, 0, 1, 1));
        due("13: other letter", false, () -> x.has(5, 0, 0, 1));
        due("13: other way", false, () -> x.has(5, 1, 1, 0));
        due("13: to itself", false, () -> x.has(5, 0, 1, 0));
        for (int bad : new int[] {-1, 2, 3, 4, 32, 33, Integer.MIN_VALUE, Integer.MAX_VALUE}) {
            refused("12: good(5, " + bad + ")", () -> x.good(5, bad));
            refused("13: from " + bad, () -> x.has(5, bad, 0, 0));
            refused("13: to " + bad, () -> x.has(5, 0, 0, bad));
            refused("13: letter " + bad, () -> x.has(5, 0, bad, 0));
        }
        refused("12: no states", () -> x.good(0, 0));
        refused("13: no states", () -> x.has(0, 0, 0, 0));
        for (int a : NO_AUTOMATON) {
            refused("11: states(" + a + ")", () -> x.states(a));
            refused("12: good(" + a + ")", () -> x.good(a, 0));
            refused("13: has(" + a + ")", () -> x.has(a, 0, 0, 0));
        }
    }

    public static void main(String[] args) {
        newObject();
        state();
        edge();
        clear();
        unite();
        trim();
        empty();
        takes();
        included();
        witness();
        readers();
        end();
    }
}
