/** The sentences of "What it is" and "Terms" that name a boundary, each with a test of its own. */
public final class TermsTest extends Checks {
    private static final String ALL_WORDS = "g 000 010";

    /** Automata on which an inclusion has much to look at, and each time something else. */
    private static final String[] RICH = {
        "g-- 001 010 102 111 112 200 211",
        "--g 001 100 102 110 200 212",
        "g-- 000 011 112 201 210 211",
        "-g- 002 012 102 110 200 210 211",
        "g-- 001 012 102 110 112 201 211",
        "--g 001 011 012 100 110 200 211",
        "-g- 002 011 012 100 112 210",
        "-g- 000 002 011 101 112 200 210",
        "g-- 001 012 102 110 112 211",
        "--g 002 011 100 110 111 201 212",
        "--g 001 011 100 102 110 200 211",
        "g-- 002 011 102 112 201 210 211",
        "--g 000 011 012 110 201 211",
        "-g- 002 011 012 100 112 200 210",
    };

    private static void calls() {
        test("An object is used for at most 512 calls: the last of 512 changes", x -> {
            for (int call = 1; call < 512; call++) {
                x.clear(call % 6);
            }
            due("the 512th call, state(0)", 0, () -> x.state(0, true));
        });
        test("An object is used for at most 512 calls: the last of 512 questions", x -> {
            build(x, 0, ALL_WORDS);
            build(x, 1, "-g 000 011 100 111");
            int made = 1 + 1 + 2 + 1 + 2 + 4;
            for (int call = made + 1; call < 511; call++) {
                boolean back = call % 2 == 0;
                due("call " + call, back, () -> back ? x.included(1, 0) : x.included(0, 1));
            }
            due("the 511th call, included(0, 1)", false, () -> x.included(0, 1));
            due("the 512th call, witness(2)", 1, () -> x.witness(2));
        });
        test("An object is used for at most 512 calls: the last behind 511 refused ones", x -> {
            for (int call = 1; call < 512; call++) {
                refused("call " + call, () -> x.included(0, 6));
            }
            due("the 512th call, included(0, 5)", true, () -> x.included(0, 5));
        });
        test("An object is used for at most 512 calls: one that had dear ones before", x -> {
            for (int round = 0; round < 2; round++) {
                for (String text : RICH) {
                    build(x, 0, text);
                    due(text + " in itself", true, () -> x.included(0, 0));
                }
            }
            build(x, 0, "---g 002 100 111 200 201 202 203 300 302 303 312");
            build(x, 1, "--g 001 002 012 100 111 201");
            due("included(0, 1)", false, () -> x.included(0, 1));
            noWitness("it is long", x);
        });
        test("Two objects have nothing in common", x -> {
            OmegaDesk y = new OmegaDesk();
            build(x, 0, ALL_WORDS);
            due("states(0) of the other", 0, () -> y.states(0));
            due("included(0, 1) of the other", true, () -> y.included(0, 1));
            due("included(0, 1)", false, () -> x.included(0, 1));
            noWitness("the other", y);
            y.state(0, false);
            due("the first", ALL_WORDS, () -> told(x, 0));
            witness("the first", x, 0, 0, 1, 0);
        });
    }

    private static void letters() {
        test("LETTERS are 0 and 1: both are taken, and are two", x -> {
            x.state(0, true);
            due("edge with letter 0", true, () -> x.edge(0, 0, 0, 0));
            due("has letter 1 by now", false, () -> x.has(0, 0, 1, 0));
            due("takes 0 0 ..", true, () -> x.takes(0, 0, 0, 1, 0));
            due("takes 1 1 ..", false, () -> x.takes(0, 0, 0, 1, 1));
            due("edge with letter 1", true, () -> x.edge(0, 0, 1, 0));
            due("has letter 1", true, () -> x.has(0, 0, 1, 0));
            due("takes 1 1 ..", true, () -> x.takes(0, 0, 0, 1, 1));
        });
        test("LETTERS are 0 and 1: -1 and 2 are none", x -> {
            x.state(0, true);
            for (int letter : new int[] {-1, 2}) {
                refused("edge with letter " + letter, () -> x.edge(0, 0, letter, 0));
                refused("has with letter " + letter, () -> x.has(0, 0, letter, 0));
            }
        });
    }

    private static void states() {
        test("at most 4 STATES 0, 1, ..", x -> {
            for (int s = 0; s < 4; s++) {
                int number = s;
                due("state", number, () -> x.state(0, false));
                due("states", number + 1, () -> x.states(0));
            }
            full("a fifth state", () -> x.state(0, false));
            due("states", 4, () -> x.states(0));
        });
        test("0 is the one where runs begin", x -> {
            build(x, 0, "-ggg 101 111 202 212 303 313");
            due("empty", true, () -> x.empty(0));
            due("takes", false, () -> x.takes(0, 0, 0, 1, 0));
            x.edge(0, 0, 1, 3);
            due("empty with an edge from 0", false, () -> x.empty(0));
            due("takes with an edge from 0", true, () -> x.takes(0, 1, 1, 1, 0));
            due("takes what begins otherwise", false, () -> x.takes(0, 1, 0, 1, 0));
        });
        test("in good states again and again without end: once, or four times, is not enough", x -> {
            build(x, 0, "ggg- 001 102 203 303 313");
            due("takes", false, () -> x.takes(0, 0, 0, 1, 0));
            due("empty", true, () -> x.empty(0));
            due("included in nothing", true, () -> x.included(0, 5));
            x.edge(0, 3, 1, 2);
            due("takes with a way back", true, () -> x.takes(0, 0, 0, 4, 1));
            due("takes without it", false, () -> x.takes(0, 4, 1, 1, 0));
        });
        test("there is a run: one of several that are not good is enough", x -> {
            build(x, 0, "-g-- 000 001 002 010 101 202 212 003 313");
            due("takes 0 0 ..", true, () -> x.takes(0, 0, 0, 1, 0));
            due("takes 0 0 1 0 0 ..", true, () -> x.takes(0, 3, 1, 1, 0));
            due("takes 1 1 ..", false, () -> x.takes(0, 0, 0, 1, 1));
        });
        test("a run takes an edge with each letter: it may not stop", x -> {
            build(x, 0, "g 000");
            due("takes 0 0 ..", true, () -> x.takes(0, 8, 0, 8, 0));
            due("takes 0 .. 0 1 0 0 ..", false, () -> x.takes(0, 8, 1, 8, 0));
            due("takes a v that ends in 1", false, () -> x.takes(0, 8, 0, 8, 1));
        });
    }

    private static void withoutStates() {
        test("An automaton without states takes nothing: no lasso", x -> {
            for (int m = 0; m <= 8; m++) {
                for (int n = 1; n <= 8; n++) {
                    int[] lasso = {m, (1 << m) - 1, n, (1 << n) - 1};
                    due("takes ones, " + m + " and " + n, false,
                        () -> x.takes(2, lasso[0], lasso[1], lasso[2], lasso[3]));
                    due("takes noughts, " + m + " and " + n, false, () -> x.takes(2, lasso[0], 0, lasso[2], 0));
                }
            }
        });
        test("An automaton without states takes nothing: it is empty and in each other one", x -> {
            build(x, 1, ALL_WORDS);
            build(x, 2, "---");
            due("empty", true, () -> x.empty(0));
            due("in all words", true, () -> x.included(0, 1));
            due("in an empty one with states", true, () -> x.included(0, 2));
            due("in another without states", true, () -> x.included(0, 3));
            due("in itself", true, () -> x.included(0, 0));
        });
        test("An automaton without states takes nothing: only what is empty is in it", x -> {
            build(x, 1, ALL_WORDS);
            build(x, 2, "g--- 001 102 203 303");
            due("all words", false, () -> x.included(1, 0));
            due("an empty one with states", true, () -> x.included(2, 0));
        });
        test("An automaton without states takes nothing: nor does one that was cleared or trimmed away", x -> {
            build(x, 0, ALL_WORDS);
            x.clear(0);
            due("takes when cleared", false, () -> x.takes(0, 0, 0, 1, 0));
            build(x, 0, "-g 101 111");
            x.trim(0);
            due("takes when trimmed away", false, () -> x.takes(0, 0, 0, 1, 0));
            due("included when trimmed away", true, () -> x.included(0, 5));
        });
    }

    private static void lassos() {
        test("u of 0 to 8 letters: -1 and 9 are refused", x -> {
            build(x, 0, ALL_WORDS);
            refused("m -1", () -> x.takes(0, -1, 0, 1, 0));
            due("m 0", true, () -> x.takes(0, 0, 0, 1, 0));
            due("m 8", true, () -> x.takes(0, 8, 0, 1, 0));
            refused("m 9", () -> x.takes(0, 9, 0, 1, 0));
        });
        test("v of 1 to 8 letters: 0 and 9 are refused", x -> {
            build(x, 0, ALL_WORDS);
            refused("n -1", () -> x.takes(0, 0, 0, -1, 0));
            refused("n 0", () -> x.takes(0, 0, 0, 0, 0));
            due("n 1", true, () -> x.takes(0, 0, 0, 1, 0));
            due("n 8", true, () -> x.takes(0, 0, 0, 8, 0));
            refused("n 9", () -> x.takes(0, 0, 0, 9, 0));
        });
        test("the first letter the highest of so many bits", x -> {
            build(x, 0, "---g 011 101 112 202 212 203 303 313");
            due("1 1 0 and what follows", true, () -> x.takes(0, 3, 0b110, 1, 1));
            due("0 1 1 and what follows", false, () -> x.takes(0, 3, 0b011, 1, 1));
            due("0 0 0 0 0 1 1 0 and what follows", false, () -> x.takes(0, 8, 0b110, 1, 1));
            due("v 1 1 0", true, () -> x.takes(0, 0, 0, 3, 0b110));
            due("v 0 1 1", false, () -> x.takes(0, 0, 0, 3, 0b011));
            due("v of eight letters", true, () -> x.takes(0, 0, 0, 8, 0b11000000));
            due("v of eight letters, other end", false, () -> x.takes(0, 0, 0, 8, 0b00000011));
        });
        test("it stands for the word u v v v ..: the same word told otherwise is answered alike", x -> {
            build(x, 0, "-g- 001 110 012 212");
            for (int[] told : new int[][] {{0, 0, 2, 1}, {0, 0, 8, 0b01010101}, {1, 0, 2, 2}, {8, 0b01010101, 4, 5}}) {
                due("0 1 0 1 ..", true, () -> x.takes(0, told[0], told[1], told[2], told[3]));
            }
            for (int[] told : new int[][] {{0, 0, 1, 1}, {8, 255, 8, 255}, {3, 7, 5, 31}}) {
                due("1 1 1 1 ..", false, () -> x.takes(0, told[0], told[1], told[2], told[3]));
            }
        });
    }

    private static void inclusion() {
        test("b takes every word that a takes: not the lassos alone, which stop at 8 and 8 letters", x -> {
            // The first takes 0 1 1 again and again and then noughts; the second lacks the one with three times 0 1 1.
            build(x, 0, "--g- 001 113 202 310 312");
            build(x, 1, "-g- 001 102 111 200 212");
            for (int times = 1; times <= 2; times++) {
                int[] told = {3 * times, times == 1 ? 0b011 : 0b011011};
                due("the first takes " + times, true, () -> x.takes(0, told[0], told[1], 1, 0));
                due("the second takes " + times, true, () -> x.takes(1, told[0], told[1], 1, 0));
            }
            due("included", false, () -> x.included(0, 1));
            noWitness("none of up to 8 letters", x);
        });
        test("Automata are numbered 0 to 5", x -> {
            for (int a = 0; a < 6; a++) {
                int number = a;
                due("state(" + number + ")", 0, () -> x.state(number, true));
                due("edge(" + number + ")", true, () -> x.edge(number, 0, number % 2, 0));
            }
            for (int a = 0; a < 6; a++) {
                int number = a;
                due("automaton " + number, "g 0" + number % 2 + "0", () -> told(x, number));
                due("takes(" + number + ")", true, () -> x.takes(number, 0, 0, 1, number % 2));
                due("included(" + number + ", " + (5 - number) + ")", false, () -> x.included(number, 5 - number));
            }
        });
    }

    public static void main(String[] args) {
        calls();
        letters();
        states();
        withoutStates();
        lassos();
        inclusion();
        end();
    }
}
