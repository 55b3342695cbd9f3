import java.util.LinkedHashMap;
import java.util.Map;

/**
 * A refused call changes nothing, and a question changes nothing but, if it is included(), the witness: all that can
 * be read of the object is the same behind it, and so is what the next calls answer.
 */
public final class RefusalTest extends Checks {
    /** Automata of 4, 3, 1, 0, 2 and 2 states. */
    private static final String[] AUTOMATA = {
        "-gg- 001 012 101 203 213 310", "g-- 000 011 102 200", "g 010", "", "-g 001 100", "gg 011 111"
    };

    interface Action {
        Object on(OmegaDesk x);
    }

    private static OmegaDesk made(boolean withWitness) {
        OmegaDesk x = new OmegaDesk();
        for (int a = 0; a < 6; a++) {
            build(x, a, AUTOMATA[a]);
        }
        if (withWitness) {
            x.included(4, 3);
        }
        return x;
    }

    private static Map<String, Action> refusedCalls() {
        Map<String, Action> calls = new LinkedHashMap<>();
        for (int a : new int[] {-1, 6}) {
            calls.put("state(" + a + ")", x -> x.state(a, true));
            calls.put("edge(" + a + ")", x -> x.edge(a, 0, 0, 0));
            calls.put("clear(" + a + ")", x -> { x.clear(a); return 0; });
            calls.put("unite(" + a + ", 2, 1)", x -> x.unite(a, 2, 1));
            calls.put("unite(2, " + a + ", 1)", x -> x.unite(2, a, 1));
            calls.put("unite(2, 3, " + a + ")", x -> x.unite(2, 3, a));
            calls.put("trim(" + a + ")", x -> x.trim(a));
            calls.put("empty(" + a + ")", x -> x.empty(a));
            calls.put("takes(" + a + ")", x -> x.takes(a, 0, 0, 1, 0));
            calls.put("included(" + a + ", 2)", x -> x.included(a, 2));
            calls.put("included(2, " + a + ")", x -> x.included(2, a));
            calls.put("states(" + a + ")", x -> x.states(a));
            calls.put("good(" + a + ")", x -> x.good(a, 0));
            calls.put("has(" + a + ")", x -> x.has(a, 0, 0, 0));
            calls.put("edge with letter " + a, x -> x.edge(5, 0, a, 1));
            calls.put("has with letter " + a, x -> x.has(5, 0, a, 1));
            calls.put("edge from " + a, x -> x.edge(5, a, 0, 1));
            calls.put("edge to " + a, x -> x.edge(5, 1, 0, a));
            calls.put("has from " + a, x -> x.has(5, a, 0, 1));
            calls.put("has to " + a, x -> x.has(5, 1, 0, a));
            calls.put("good(5, " + a + ")", x -> x.good(5, a));
            calls.put("witness(" + a + ")", x -> x.witness(a));
        }
        calls.put("edge from 2 of 2", x -> x.edge(5, 2, 0, 1));
        calls.put("edge to 2 of 2", x -> x.edge(5, 1, 0, 2));
        calls.put("edge with letter 2", x -> x.edge(5, 0, 2, 1));
        calls.put("edge of no states", x -> x.edge(3, 0, 0, 0));
        calls.put("good(3, 0)", x -> x.good(3, 0));
        calls.put("unite(2, 2, 1)", x -> x.unite(2, 2, 1));
        calls.put("unite(2, 3, 2)", x -> x.unite(2, 3, 2));
        calls.put("unite(3, 2, 2)", x -> x.unite(3, 2, 2));
        calls.put("unite(2, 2, 2)", x -> x.unite(2, 2, 2));
        calls.put("m -1", x -> x.takes(5, -1, 0, 1, 0));
        calls.put("m 9", x -> x.takes(5, 9, 0, 1, 0));
        calls.put("n 0", x -> x.takes(5, 0, 0, 0, 0));
        calls.put("n 9", x -> x.takes(5, 0, 0, 9, 0));
        calls.put("u 256", x -> x.takes(5, 8, 256, 1, 0));
        calls.put("v 256", x -> x.takes(5, 0, 0, 8, 256));
        calls.put("witness(4)", x -> x.witness(4));
        return calls;
    }

    private static Map<String, Action> fullCalls() {
        Map<String, Action> calls = new LinkedHashMap<>();
        calls.put("state(0, true)", x -> x.state(0, true));
        calls.put("state(0, false)", x -> x.state(0, false));
        calls.put("unite(0, 3, 2)", x -> x.unite(0, 3, 2));
        calls.put("unite(3, 0, 2)", x -> x.unite(3, 0, 2));
        calls.put("unite(1, 2, 0)", x -> x.unite(1, 2, 0));
        calls.put("unite(4, 5, 3)", x -> x.unite(4, 5, 3));
        calls.put("included(3, 0)", x -> x.included(3, 0));
        calls.put("included(2, 0)", x -> x.included(2, 0));
        calls.put("included(0, 0)", x -> x.included(0, 0));
        return calls;
    }

    private static Map<String, Action> questions() {
        Map<String, Action> calls = new LinkedHashMap<>();
        for (int a = 0; a < 6; a++) {
            int automaton = a;
            calls.put("empty(" + a + ")", x -> x.empty(automaton));
            calls.put("takes(" + a + ")", x -> x.takes(automaton, 8, 85, 8, 170));
            calls.put("states(" + a + ")", x -> x.states(automaton));
        }
        calls.put("good(0, 3)", x -> x.good(0, 3));
        calls.put("has(0, 3, 1, 0)", x -> x.has(0, 3, 1, 0));
        calls.put("an edge that is there", x -> x.edge(0, 3, 1, 0));
        calls.put("clear(3)", x -> { x.clear(3); return 0; });
        calls.put("trim(3)", x -> x.trim(3));
        calls.put("trim(1)", x -> x.trim(1));
        return calls;
    }

    private static void leavesAll(String kind, Map<String, Action> calls, String want) {
        for (boolean withWitness : new boolean[] {true, false}) {
            String before = all(made(withWitness));
            for (Map.Entry<String, Action> call : calls.entrySet()) {
                test(kind + ": " + call.getKey(), unused -> {
                    OmegaDesk x = made(withWitness);
                    if (want.isEmpty()) {
                        call.getValue().on(x);
                    } else {
                        due("it", want, () -> call.getValue().on(x));
                    }
                    due("what is read behind it", before, () -> all(x));
                    goesOn(x);
                });
            }
        }
    }

    /** Calls that change things, with the answers that they have where nothing went before them. */
    private static void goesOn(OmegaDesk x) {
        due("the next state", 2, () -> x.state(5, false));
        due("the next edge", true, () -> x.edge(5, 2, 0, 0));
        due("the next union", 4, () -> x.unite(4, 2, 3));
        due("the union", "--gg 002 013 102 201 313", () -> told(x, 3));
        due("the next trim", 2, () -> x.trim(5));
        due("what is left", "gg 011 111", () -> told(x, 5));
        due("the next inclusion", false, () -> x.included(5, 4));
        witness("the next", x, 0, 0, 1, 1);
    }

    private static void inclusionChangesNoAutomaton() {
        for (int pair = 0; pair < 36; pair++) {
            int a = pair / 6;
            int b = pair % 6;
            test("included(" + a + ", " + b + ") leaves the automata", unused -> {
                OmegaDesk x = made(false);
                answer(() -> x.included(a, b));
                for (int i = 0; i < 6; i++) {
                    int automaton = i;
                    due("automaton " + i, AUTOMATA[i], () -> told(x, automaton));
                }
            });
        }
    }

    public static void main(String[] args) {
        leavesAll("refused", refusedCalls(), REFUSED);
        leavesAll("too many states", fullCalls(), FULL);
        leavesAll("nothing to change", questions(), "");
        inclusionChangesNoAutomaton();
        end();
    }
}
