/**
 * Promises 1 to 6 and 11 to 13, what makes and tells automata: each sentence that names a boundary has a test of its
 * own. What a refused call leaves is tested by RefusalTest.
 */
public final class EditBoundaryTest extends Checks {
    private static final String FOUR = "g-g- 000 011 102 113 203 210 301 312";

    private static void newObject() {
        test("1: Six automata without states", x -> {
            for (int a = 0; a < 6; a++) {
                int number = a;
                due("states(" + a + ")", 0, () -> x.states(number));
                due("empty(" + a + ")", true, () -> x.empty(number));
                due("trim(" + a + ")", 0, () -> x.trim(number));
                refused("good(" + a + ", 0)", () -> x.good(number, 0));
                refused("has(" + a + ")", () -> x.has(number, 0, 0, 0));
                refused("edge(" + a + ")", () -> x.edge(number, 0, 0, 0));
            }
        });
        test("1: Six automata, no seventh", x -> {
            refused("states(-1)", () -> x.states(-1));
            due("states(5)", 0, () -> x.states(5));
            refused("states(6)", () -> x.states(6));
        });
        test("1: a new object has no witness", x -> noWitness("new", x));
        test("1: of a new object each is included in each", x -> {
            for (int pair = 0; pair < 36; pair++) {
                int a = pair / 6;
                int b = pair % 6;
                due("included(" + a + ", " + b + ")", true, () -> x.included(a, b));
            }
        });
    }

    private static void state() {
        test("2: its number, from 0 on, in each automaton by itself", x -> {
            for (int s = 0; s < 4; s++) {
                for (int a = 0; a < 6; a++) {
                    int automaton = a;
                    due("state(" + a + ")", s, () -> x.state(automaton, false));
                }
            }
        });
        test("2: it is good or not, as said, and the others stay as they are", x -> {
            for (int set = 0; set < 16; set++) {
                x.clear(0);
                StringBuilder text = new StringBuilder();
                for (int s = 0; s < 4; s++) {
                    x.state(0, (set >> s & 1) != 0);
                    text.append((set >> s & 1) != 0 ? 'g' : '-');
                }
                String want = text.toString();
                due("good states", want, () -> "" + mark(x, 0) + mark(x, 1) + mark(x, 2) + mark(x, 3));
            }
        });
        test("2: a new state has no edges, and the edges before it stay", x -> {
            build(x, 0, "g 000 010");
            x.state(0, true);
            due("with two", "gg 000 010", () -> told(x, 0));
        });
        test("2: IllegalArgumentException: no such automaton", x -> {
            for (int a : NO_AUTOMATON) {
                refused("state(" + a + ", true)", () -> x.state(a, true));
                refused("state(" + a + ", false)", () -> x.state(a, false));
            }
        });
        test("2: IllegalArgumentException: no such automaton, though each has 4 states", x -> {
            for (int a = 0; a < 6; a++) {
                build(x, a, "----");
            }
            for (int a : NO_AUTOMATON) {
                refused("state(" + a + ")", () -> x.state(a, true));
            }
        });
        test("2: IllegalStateException: it has 4; a fourth one is taken", x -> {
            build(x, 0, "---");
            due("the fourth", 3, () -> x.state(0, true));
            full("the fifth, good", () -> x.state(0, true));
            full("the fifth, not good", () -> x.state(0, false));
            due("the others are free", 0, () -> x.state(1, true));
        });
        test("2: IllegalStateException: the 4 states stay good or not as they were", x -> {
            for (String text : new String[] {"----", "gggg"}) {
                build(x, 0, text);
                full("a good one", () -> x.state(0, true));
                full("one not good", () -> x.state(0, false));
                due("the 4", text, () -> told(x, 0));
            }
        });
        test("2: there is room again behind clear, trim and unite", x -> {
            build(x, 0, "-g-- 001 101");
            full("four", () -> x.state(0, true));
            due("trim", 2, () -> x.trim(0));
            due("behind trim", 2, () -> x.state(0, true));
            due("behind trim, the fourth", 3, () -> x.state(0, true));
            full("behind trim, the fifth", () -> x.state(0, true));
            x.clear(0);
            due("behind clear", 0, () -> x.state(0, true));
            build(x, 0, "gggg");
            due("unite", 1, () -> x.unite(1, 2, 0));
            due("behind unite", 1, () -> x.state(0, true));
        });
    }

    private static char mark(OmegaDesk x, int state) {
        return x.good(0, state) ? 'g' : '-';
    }

    private static void edge() {
        test("3: whether it was not before: each of the 32 edges of 4 states once", x -> {
            build(x, 0, "----");
            for (int e = 0; e < 32; e++) {
                int edge = e;
                due("has " + e + " before", false, () -> x.has(0, edge / 8, edge / 4 % 2, edge % 4));
                due("edge " + e, true, () -> x.edge(0, edge / 8, edge / 4 % 2, edge % 4));
                due("has " + e, true, () -> x.has(0, edge / 8, edge / 4 % 2, edge % 4));
                due("edge " + e + " again", false, () -> x.edge(0, edge / 8, edge / 4 % 2, edge % 4));
            }
            for (int e = 0; e < 32; e++) {
                int edge = e;
                due("has " + e + " at the end", true, () -> x.has(0, edge / 8, edge / 4 % 2, edge % 4));
            }
        });
        test("3: an edge is in its own automaton alone", x -> {
            for (int a = 0; a < 6; a++) {
                build(x, a, "--");
            }
            x.edge(3, 1, 1, 0);
            for (int a = 0; a < 6; a++) {
                int automaton = a;
                due("has(" + a + ")", a == 3, () -> x.has(automaton, 1, 1, 0));
            }
        });
        test("3: from now on: until its state goes", x -> {
            build(x, 0, "--");
            x.edge(0, 1, 0, 1);
            x.clear(0);
            build(x, 0, "--");
            due("edge behind clear", true, () -> x.edge(0, 1, 0, 1));
            x.trim(0);
            build(x, 0, "--");
            due("edge behind trim", true, () -> x.edge(0, 1, 0, 1));
            x.unite(1, 2, 0);
            x.state(0, false);
            due("edge behind unite", true, () -> x.edge(0, 1, 0, 1));
        });
        test("3: IllegalArgumentException: no such automaton", x -> {
            for (int a = 0; a < 6; a++) {
                build(x, a, "g");
            }
            for (int a : NO_AUTOMATON) {
                refused("edge(" + a + ")", () -> x.edge(a, 0, 0, 0));
            }
        });
        test("3: IllegalArgumentException: no such states: just below and above, for 0 to 4 states", x -> {
            for (int n = 0; n <= 4; n++) {
                int above = n;
                int last = n - 1;
                if (n > 0) {
                    x.state(0, false);
                    due("the last, " + n, true, () -> x.edge(0, last, 0, 0));
                    due("to the last, " + n, true, () -> x.edge(0, 0, 1, last));
                }
                refused("from -1, " + n, () -> x.edge(0, -1, 0, 0));
                refused("to -1, " + n, () -> x.edge(0, 0, 0, -1));
                refused("from " + n, () -> x.edge(0, above, 0, 0));
                refused("to " + n, () -> x.edge(0, 0, 0, above));
                refused("from 4, " + n, () -> x.edge(0, 4, 0, 0));
                refused("to 4, " + n, () -> x.edge(0, 0, 0, 4));
            }
        });
        test("3: IllegalArgumentException: no such states: where another automaton has them", x -> {
            build(x, 0, "-");
            build(x, 1, "----");
            refused("from 1", () -> x.edge(0, 1, 0, 0));
            refused("to 3", () -> x.edge(0, 0, 0, 3));
        });
        test("3: IllegalArgumentException: no such states: those that went out", x -> {
            build(x, 0, "-g-- 001 101 002");
            x.trim(0);
            refused("behind trim", () -> x.edge(0, 2, 0, 0));
            x.clear(0);
            refused("behind clear", () -> x.edge(0, 0, 0, 0));
        });
        test("3: IllegalArgumentException: no such letter", x -> {
            build(x, 0, "----");
            for (int bad : new int[] {-1, 2, 3, Integer.MIN_VALUE, Integer.MAX_VALUE}) {
                refused("letter " + bad, () -> x.edge(0, 3, bad, 3));
            }
        });
    }

    private static void clear() {
        test("4: no states any more: one with 4", x -> {
            build(x, 0, FOUR);
            x.clear(0);
            due("states", 0, () -> x.states(0));
            refused("good(0, 0)", () -> x.good(0, 0));
            refused("has", () -> x.has(0, 0, 0, 0));
            due("empty", true, () -> x.empty(0));
        });
        test("4: no states any more: nothing of them comes back with new ones", x -> {
            build(x, 0, "gggg 000 001 010 303 313 312 111");
            x.clear(0);
            for (int s = 0; s < 4; s++) {
                x.state(0, false);
            }
            due("four new ones", "----", () -> told(x, 0));
        });
        test("4: one without states stays so", x -> {
            x.clear(0);
            x.clear(0);
            due("states", 0, () -> x.states(0));
            due("state", 0, () -> x.state(0, true));
        });
        test("4: the others stay", x -> {
            for (int a = 0; a < 6; a++) {
                build(x, a, "-g 011 100");
            }
            x.clear(2);
            for (int a = 0; a < 6; a++) {
                int automaton = a;
                due("automaton " + a, a == 2 ? "" : "-g 011 100", () -> told(x, automaton));
            }
        });
        test("4: IllegalArgumentException: there is no such automaton", x -> {
            for (int a : NO_AUTOMATON) {
                refused("clear(" + a + ")", () -> cleared(x, a));
            }
            due("clear(0)", 0, () -> cleared(x, 0));
            due("clear(5)", 0, () -> cleared(x, 5));
        });
    }

    private static int cleared(OmegaDesk x, int automaton) {
        x.clear(automaton);
        return 0;
    }

    private static void uniteSizes() {
        test("5: How many states it has: up to 4, and more are refused", x -> {
            String[] sizes = {"", "-", "--", "---", "----"};
            for (int pair = 0; pair < 25; pair++) {
                int both = pair / 5 + pair % 5;
                build(x, 0, sizes[pair / 5]);
                build(x, 1, sizes[pair % 5]);
                Object want = both > 3 ? (Object) FULL : (Object) (both + 1);
                due(pair / 5 + " and " + pair % 5, want, () -> x.unite(0, 1, 2));
            }
        });
        test("5: How many c had does not count", x -> {
            build(x, 0, "g 000");
            build(x, 1, "g- 011 110");
            build(x, 2, "gggg 000 111 202 313 300 310");
            due("unite", 4, () -> x.unite(0, 1, 2));
            due("the union", "-gg- 001 013 101 213 312", () -> told(x, 2));
        });
        test("5: Where a has no states, it has none to add", x -> {
            build(x, 1, "g-g 001 002 110 212");
            due("unite", 4, () -> x.unite(0, 1, 2));
            due("the union", "-g-g 002 003 102 103 211 313", () -> told(x, 2));
        });
        test("5: Where b has no states, it has none to add", x -> {
            build(x, 0, "g-g 001 002 110 212");
            due("unite", 4, () -> x.unite(0, 1, 2));
            due("the union", "-g-g 002 003 102 103 211 313", () -> told(x, 2));
        });
        test("5: Where neither has states, the new state is alone", x -> {
            build(x, 2, "gg 000 101");
            due("unite", 1, () -> x.unite(0, 1, 2));
            due("the union", "-", () -> told(x, 2));
        });
    }

    private static void uniteShape() {
        test("5: a new state 0, which is not good, though both states 0 are", x -> {
            build(x, 0, "g 000");
            build(x, 1, "g 010");
            x.unite(0, 1, 2);
            due("the union", "-gg 001 012 101 212", () -> told(x, 2));
        });
        test("5: the states of a, then those of b, in their order", x -> {
            build(x, 0, "g-");
            build(x, 1, "g");
            x.unite(0, 1, 2);
            due("a and b", "-g-g", () -> told(x, 2));
            x.unite(1, 0, 2);
            due("b and a", "-gg-", () -> told(x, 2));
        });
        test("5: the edges of states 0 alone go to the new state, and none leads into it", x -> {
            build(x, 0, "-- 001 100 110 111");
            build(x, 1, "- 010");
            x.unite(0, 1, 2);
            due("the union", "---- 002 013 102 201 211 212 313", () -> told(x, 2));
        });
        test("5: takes what a or b takes, and nothing else", x -> {
            build(x, 0, "-g 000 010 011 111");
            build(x, 1, "g 000");
            x.unite(0, 1, 2);
            for (int letters = 1; letters <= 3; letters++) {
                for (int m = 0; m < letters; m++) {
                    sameAsEither(x, m, letters - m);
                }
            }
        });
        test("5: c has its own states: later changes of a and b are not seen in it", x -> {
            build(x, 0, "g 000");
            build(x, 1, "- 010");
            x.unite(0, 1, 2);
            x.clear(0);
            x.edge(1, 0, 0, 0);
            due("the union", "-g- 001 012 101 212", () -> told(x, 2));
            x.edge(2, 1, 1, 2);
            due("b", "- 000 010", () -> told(x, 1));
        });
        test("5: a union can be united again", x -> {
            build(x, 0, "g 000");
            x.unite(0, 1, 2);
            due("unite", 3, () -> x.unite(2, 3, 4));
            due("the union", "--g 002 102 202", () -> told(x, 4));
        });
    }

    private static void sameAsEither(OmegaDesk x, int m, int n) {
        for (int w = 0; w < 1 << m + n; w++) {
            int u = w >> n;
            int v = w & (1 << n) - 1;
            boolean either = x.takes(0, m, u, n, v) || x.takes(1, m, u, n, v);
            due("takes " + m + " " + u + " " + n + " " + v, either, () -> x.takes(2, m, u, n, v));
        }
    }

    private static void uniteRefused() {
        test("5: IllegalArgumentException: no such automata, at each place", x -> {
            for (int a : NO_AUTOMATON) {
                refused("a " + a, () -> x.unite(a, 0, 1));
                refused("b " + a, () -> x.unite(0, a, 1));
                refused("c " + a, () -> x.unite(0, 1, a));
                refused("all " + a, () -> x.unite(a, a, a));
            }
            due("0, 5, 1", 1, () -> x.unite(0, 5, 1));
            due("5, 0, 2", 1, () -> x.unite(5, 0, 2));
            due("1, 2, 5", 3, () -> x.unite(1, 2, 5));
            due("3, 4, 0", 1, () -> x.unite(3, 4, 0));
        });
        test("5: IllegalArgumentException: two are the same one, with states or without", x -> {
            for (String text : new String[] {"", "g 000", "gg 001 010"}) {
                build(x, 0, text);
                refused("a is b", () -> x.unite(0, 0, 1));
                refused("a is c", () -> x.unite(0, 1, 0));
                refused("b is c", () -> x.unite(1, 0, 0));
                refused("all are one", () -> x.unite(0, 0, 0));
            }
        });
        test("5: IllegalArgumentException goes before IllegalStateException", x -> {
            build(x, 0, "----");
            build(x, 1, "----");
            full("two of 4", () -> x.unite(0, 1, 2));
            refused("a is b", () -> x.unite(0, 0, 2));
            refused("a is c", () -> x.unite(0, 1, 0));
            refused("b is c", () -> x.unite(0, 1, 1));
            refused("no c", () -> x.unite(0, 1, 6));
            refused("no b", () -> x.unite(0, 6, 2));
            refused("no a", () -> x.unite(-1, 0, 2));
        });
        test("5: IllegalStateException: c is free for a smaller union behind it", x -> {
            build(x, 0, "-- 001 110");
            build(x, 1, "gg 000");
            full("two and two", () -> x.unite(0, 1, 2));
            due("states of c", 0, () -> x.states(2));
            due("two and none", 3, () -> x.unite(0, 5, 2));
        });
    }

    private static void trimBounds() {
        test("6: one without states has none left", x -> due("trim", 0, () -> x.trim(0)));
        test("6: one with 4 states of which each is needed keeps all", x -> {
            build(x, 0, "---g 001 112 203 310");
            due("trim", 4, () -> x.trim(0));
            due("what is left", "---g 001 112 203 310", () -> told(x, 0));
        });
        test("6: one with 4 states of which two are needed, or one", x -> {
            build(x, 0, "g--- 000 001 012 113 313 200");
            due("trim", 2, () -> x.trim(0));
            due("what is left", "g- 000 011 100", () -> told(x, 0));
            build(x, 0, "g--g 010 001 101 303");
            due("trim", 1, () -> x.trim(0));
            due("what is left", "g 010", () -> told(x, 0));
        });
        test("6: no way leads to them from state 0", x -> {
            build(x, 0, "gg 000 100 101");
            due("trim", 1, () -> x.trim(0));
            due("what is left", "g 000", () -> told(x, 0));
        });
        test("6: from them none to a good state that leads to itself", x -> {
            build(x, 0, "g-gg 000 001 101 111 012 203");
            due("trim", 1, () -> x.trim(0));
            due("what is left", "g 000", () -> told(x, 0));
        });
        test("6: a good state that leads to itself by way of three others stays with them", x -> {
            build(x, 0, "g--- 001 102 213 310");
            due("trim", 4, () -> x.trim(0));
            due("what is left", "g--- 001 102 213 310", () -> told(x, 0));
        });
        test("6: a good state that leads to another such one, but not to itself, stays", x -> {
            build(x, 0, "gg 001 111");
            due("trim", 2, () -> x.trim(0));
            due("what is left", "gg 001 111", () -> told(x, 0));
        });
        test("6: a state with a loop that is not good stays if a good one can follow", x -> {
            build(x, 0, "--g 000 001 111 112 202");
            due("trim", 3, () -> x.trim(0));
            due("what is left", "--g 000 001 111 112 202", () -> told(x, 0));
        });
        test("6: When state 0 goes out, all do", x -> {
            build(x, 0, "-ggg 101 111 212 303 113");
            due("no way from 0, trim", 0, () -> x.trim(0));
            due("what is left", "", () -> told(x, 0));
            build(x, 0, "g--- 001 102 203 303 313");
            due("good once, trim", 0, () -> x.trim(0));
            due("what is left", "", () -> told(x, 0));
            build(x, 0, "g");
            due("no edges, trim", 0, () -> x.trim(0));
            build(x, 0, "- 000 010");
            due("no good state, trim", 0, () -> x.trim(0));
        });
    }

    private static void trimShape() {
        test("6: the others keep their order, their being good and their edges", x -> {
            build(x, 0, "-g-g 013 313 302 203 200 001 100");
            due("trim", 4, () -> x.trim(0));
            build(x, 0, "--g- 002 202 213 303 310 011 111");
            due("trim", 3, () -> x.trim(0));
            due("1 went", "-g- 001 101 112 202 210", () -> told(x, 0));
            build(x, 0, "-g-g 003 303 311 110 012 212");
            due("trim", 3, () -> x.trim(0));
            due("2 went", "-gg 002 110 202 211", () -> told(x, 0));
        });
        test("6: go out, with their edges: nothing comes back with new states", x -> {
            build(x, 0, "gggg 000 101 112 203 303 310 111");
            due("trim", 1, () -> x.trim(0));
            for (int s = 1; s < 4; s++) {
                int number = s;
                due("state", number, () -> x.state(0, false));
            }
            due("with new ones", "g--- 000", () -> told(x, 0));
        });
        test("6: How many are left: as states tells, and no more go the next time", x -> {
            build(x, 0, "-g-- 001 101 102 013 313");
            due("trim", 2, () -> x.trim(0));
            due("states", 2, () -> x.states(0));
            refused("good(0, 2)", () -> x.good(0, 2));
            due("trim again", 2, () -> x.trim(0));
            due("what is left", "-g 001 101", () -> told(x, 0));
        });
        test("6: it takes the same words, and the others stay", x -> {
            build(x, 0, "--g- 000 002 202 213 303 310 011 111");
            build(x, 1, "--g- 000 002 202 213 303 310 011 111");
            x.trim(0);
            due("the other", 4, () -> x.states(1));
            for (int v = 0; v < 16; v++) {
                int word = v;
                due("v " + v, x.takes(1, 0, 0, 4, word), () -> x.takes(0, 0, 0, 4, word));
                due("u " + v, x.takes(1, 4, word, 1, 0), () -> x.takes(0, 4, word, 1, 0));
            }
        });
        test("6: IllegalArgumentException: there is no such automaton", x -> {
            for (int a : NO_AUTOMATON) {
                refused("trim(" + a + ")", () -> x.trim(a));
            }
            due("trim(5)", 0, () -> x.trim(5));
        });
    }

    private static void readers() {
        test("11: How many states: 0 to 4, for each automaton", x -> {
            String[] texts = {"", "-", "g-", "-g-", "----", "gggg"};
            for (int a = 0; a < 6; a++) {
                build(x, a, texts[a]);
            }
            for (int a = 0; a < 6; a++) {
                int automaton = a;
                due("states(" + a + ")", texts[a].length(), () -> x.states(automaton));
            }
        });
        test("11: IllegalArgumentException: there is no such automaton", x -> {
            for (int a : NO_AUTOMATON) {
                refused("states(" + a + ")", () -> x.states(a));
            }
        });
        test("12: IllegalArgumentException: no such automaton", x -> {
            for (int a = 0; a < 6; a++) {
                build(x, a, "g");
            }
            for (int a : NO_AUTOMATON) {
                refused("good(" + a + ")", () -> x.good(a, 0));
            }
            due("good(5, 0)", true, () -> x.good(5, 0));
        });
        test("12: IllegalArgumentException: no such state: just below and above, for 0 to 4 states", x -> {
            for (int n = 0; n <= 4; n++) {
                int above = n;
                if (n > 0) {
                    x.state(0, n % 2 == 0);
                    due("the last of " + n, above % 2 == 0, () -> x.good(0, above - 1));
                }
                for (int bad : new int[] {-1, above, 4, 31, 32, 33, Integer.MIN_VALUE, Integer.MAX_VALUE}) {
                    refused("good(0, " + bad + ") of " + n, () -> x.good(0, bad));
                }
            }
        });
        test("13: IllegalArgumentException: no such automaton", x -> {
            for (int a = 0; a < 6; a++) {
                build(x, a, "g 000");
            }
            for (int a : NO_AUTOMATON) {
                refused("has(" + a + ")", () -> x.has(a, 0, 0, 0));
            }
            due("has(5)", true, () -> x.has(5, 0, 0, 0));
        });
        test("13: IllegalArgumentException: no such states: just below and above, for 0 to 4 states", x -> {
            for (int n = 0; n <= 4; n++) {
                int above = n;
                if (n > 0) {
                    x.state(0, false);
                    due("the last of " + n, false, () -> x.has(0, above - 1, 1, above - 1));
                }
                for (int bad : new int[] {-1, above, 4, 32, Integer.MIN_VALUE, Integer.MAX_VALUE}) {
                    refused("from " + bad + " of " + n, () -> x.has(0, bad, 0, 0));
                    refused("to " + bad + " of " + n, () -> x.has(0, 0, 0, bad));
                }
            }
        });
        test("13: IllegalArgumentException: no such letter", x -> {
            build(x, 0, "---- 303 313");
            for (int bad : new int[] {-1, 2, 3, Integer.MIN_VALUE, Integer.MAX_VALUE}) {
                refused("letter " + bad, () -> x.has(0, 3, bad, 3));
            }
        });
    }

    public static void main(String[] args) {
        newObject();
        state();
        edge();
        clear();
        uniteSizes();
        uniteShape();
        uniteRefused();
        trimBounds();
        trimShape();
        readers();
        end();
    }
}
