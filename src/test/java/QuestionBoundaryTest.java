/**
 * Promises 7 to 10, what is asked of automata: each sentence that names a boundary has a test of its own. What a
 * refused call leaves is tested by RefusalTest.
 */
public final class QuestionBoundaryTest extends Checks {
    private static final String ALL_WORDS = "g 000 010";
    private static final String ONES_AT_THE_END = "-g 000 010 011 111";
    private static final String ONES_WITHOUT_END = "-g 000 011 100 111";

    /** For each number of letters in u, two automata whose witness has 8 letters, and the witness. */
    private static final String[][] EIGHT_LETTERS = {
        {"g--- 011 103 201 212 300 302", "g-- 000 012 200", "0 0 8 152"},
        {"g--- 012 103 200 201 302 313", "-g- 001 010 100 112 200", "1 1 7 38"},
        {"g--- 012 111 112 201 210", "g-- 002 011 012 110 200 211", "2 2 6 53"},
        {"--g- 001 101 102 113 200 311", "--g 000 001 102 111 200 212", "3 3 5 6"},
        {"g--- 011 103 201 212 302 310", "g-- 000 012 100 200 211", "4 9 4 12"},
        {"g--- 011 103 201 212 300 302 311", "g-- 000 012 102 200 211", "5 19 3 4"},
        {"g--- 001 112 203 302 310 311", "-g- 000 012 100 110 201", "6 17 2 2"},
        {"--g- 001 113 202 301 312", "-g- 001 102 111 200 212", "7 43 1 0"},
    };

    /** The same with witnesses of 9 letters and, in the last row, of 16. */
    private static final String[][] MORE_LETTERS = {
        {"--g- 012 103 201 302 311 313", "-g- 001 010 100 101 112 200", "1 1 8 54"},
        {"g--- 001 112 203 300 311 312", "-g- 000 012 100 111 201", "2 1 7 44"},
        {"g--- 012 112 203 300 311", "-g- 000 012 100 111 201", "3 5 6 44"},
        {"g--- 011 113 201 202 212 300 302", "--g 000 012 100 200 211", "4 13 5 26"},
        {"g--- 011 103 201 212 300 302 303", "g-- 000 012 102 200 211", "5 19 4 8"},
        {"g--- 001 113 201 212 300 302", "g-- 000 012 100 200 211", "6 23 3 2"},
        {"g--- 013 200 203 212 302", "g-- 000 012 110 200 202 211", "7 89 2 2"},
        {"--g- 001 112 113 202 310", "-g- 001 102 111 200 212", "8 109 1 0"},
        {"g--- 013 103 112 202 210 213 311", "--g 001 011 012 112 202 210", "8 230 8 179"},
    };

    private static void empty() {
        test("7: Whether it takes no word: one without states", x -> due("empty", true, () -> x.empty(0)));
        test("7: Whether it takes no word: one state", x -> {
            build(x, 0, "g");
            due("no edge", true, () -> x.empty(0));
            x.edge(0, 0, 1, 0);
            due("an edge", false, () -> x.empty(0));
            build(x, 0, "- 000 010");
            due("not good", true, () -> x.empty(0));
        });
        test("7: Whether it takes no word: 4 states", x -> {
            build(x, 0, "---g 001 112 203");
            due("a way to a good state, and no further", true, () -> x.empty(0));
            x.edge(0, 3, 0, 1);
            due("and back", false, () -> x.empty(0));
            build(x, 0, "gggg 001 002 003 102 103 203 012 113");
            due("good states alone, none leads to itself", true, () -> x.empty(0));
            build(x, 0, "-ggg 101 202 303 112 213");
            due("no way from state 0", true, () -> x.empty(0));
        });
        test("7: each automaton by itself", x -> {
            build(x, 3, ALL_WORDS);
            for (int a = 0; a < 6; a++) {
                int automaton = a;
                due("empty(" + a + ")", a != 3, () -> x.empty(automaton));
            }
        });
        test("7: IllegalArgumentException: there is no such automaton", x -> {
            for (int a : NO_AUTOMATON) {
                refused("empty(" + a + ")", () -> x.empty(a));
            }
        });
    }

    private static void takes() {
        test("8: the longest lasso, u of 8 letters and v of 8: its last letters count", x -> {
            build(x, 0, "-g 000 010 011 111");
            due("v of ones", true, () -> x.takes(0, 8, 0, 8, 255));
            due("v with a nought at the end", false, () -> x.takes(0, 8, 255, 8, 254));
            due("v with a nought before", false, () -> x.takes(0, 8, 255, 8, 127));
        });
        test("8: the shortest lasso, no u and v of one letter", x -> {
            build(x, 0, "g 010");
            due("v 0", false, () -> x.takes(0, 0, 0, 1, 0));
            due("v 1", true, () -> x.takes(0, 0, 0, 1, 1));
        });
        test("8: v must go round more than once before the state comes again", x -> {
            build(x, 0, "---g 001 102 203 300");
            due("v of 3 letters in a round of 4", true, () -> x.takes(0, 0, 0, 3, 0));
            due("v of 7 letters in a round of 4", true, () -> x.takes(0, 5, 0, 7, 0));
            x.clear(0);
            build(x, 0, "g--- 011 102 203 310");
            due("a round of 4 with ones outside", true, () -> x.takes(0, 0, 0, 4, 0b1001));
            due("that round turned", false, () -> x.takes(0, 0, 0, 4, 0b0011));
        });
        test("8: a good state inside v alone is enough, at the end of u alone is not", x -> {
            build(x, 0, "-g 001 110");
            due("inside v", true, () -> x.takes(0, 0, 0, 2, 1));
            build(x, 0, "-g- 001 112 212");
            due("at the end of u", false, () -> x.takes(0, 1, 0, 1, 1));
        });
        test("8: IllegalArgumentException: no such automaton", x -> {
            for (int a : NO_AUTOMATON) {
                refused("takes(" + a + ")", () -> x.takes(a, 0, 0, 1, 0));
            }
        });
        test("8: IllegalArgumentException: m not 0 .. 8", x -> {
            for (int bad : new int[] {-1, 9, 31, 32, 33, Integer.MIN_VALUE, Integer.MAX_VALUE}) {
                refused("m " + bad, () -> x.takes(0, bad, 0, 1, 0));
            }
        });
        test("8: IllegalArgumentException: n not 1 .. 8", x -> {
            for (int bad : new int[] {-1, 0, 9, 31, 32, 33, Integer.MIN_VALUE, Integer.MAX_VALUE}) {
                refused("n " + bad, () -> x.takes(0, 0, 0, bad, 0));
            }
        });
        test("8: IllegalArgumentException: u no number of so many bits", x -> {
            build(x, 0, ALL_WORDS);
            for (int m = 0; m <= 8; m++) {
                int length = m;
                refused("u -1 of " + m, () -> x.takes(0, length, -1, 1, 0));
                due("u 0 of " + m, true, () -> x.takes(0, length, 0, 1, 0));
                due("the greatest u of " + m, true, () -> x.takes(0, length, (1 << length) - 1, 1, 0));
                refused("one more of " + m, () -> x.takes(0, length, 1 << length, 1, 0));
                refused("the least int of " + m, () -> x.takes(0, length, Integer.MIN_VALUE, 1, 0));
                refused("the greatest int of " + m, () -> x.takes(0, length, Integer.MAX_VALUE, 1, 0));
            }
        });
        test("8: IllegalArgumentException: v no number of so many bits", x -> {
            build(x, 0, ALL_WORDS);
            for (int n = 1; n <= 8; n++) {
                int length = n;
                refused("v -1 of " + n, () -> x.takes(0, 0, 0, length, -1));
                due("v 0 of " + n, true, () -> x.takes(0, 0, 0, length, 0));
                due("the greatest v of " + n, true, () -> x.takes(0, 0, 0, length, (1 << length) - 1));
                refused("one more of " + n, () -> x.takes(0, 0, 0, length, 1 << length));
                refused("the least int of " + n, () -> x.takes(0, 0, 0, length, Integer.MIN_VALUE));
                refused("the greatest int of " + n, () -> x.takes(0, 0, 0, length, Integer.MAX_VALUE));
            }
        });
        test("8: IllegalArgumentException, though the automaton takes nothing or has no states", x -> {
            build(x, 0, "-");
            for (int a = 0; a < 2; a++) {
                int automaton = a;
                refused("m 9", () -> x.takes(automaton, 9, 0, 1, 0));
                refused("n 0", () -> x.takes(automaton, 0, 0, 0, 0));
                refused("u 2 of 1", () -> x.takes(automaton, 1, 2, 1, 0));
                refused("v 2 of 1", () -> x.takes(automaton, 0, 0, 1, 2));
            }
        });
    }

    private static void included() {
        test("9: a may have 0 to 4 states, b 0 to 3", x -> {
            String[] texts = {"", "g 000", "gg 001 100", "ggg 001 102 200", "gggg 001 102 203 300"};
            for (int pair = 0; pair < 25; pair++) {
                int a = pair / 5;
                int b = pair % 5;
                build(x, 0, texts[a]);
                build(x, 1, texts[b]);
                Object want = b == 4 ? (Object) FULL : (Object) (a == 0 || b > 0);
                due(a + " states in " + b, want, () -> x.included(0, 1));
            }
        });
        test("9: a and b may be the same one", x -> {
            build(x, 0, ONES_WITHOUT_END);
            due("two states", true, () -> x.included(0, 0));
            due("no states", true, () -> x.included(1, 1));
            build(x, 0, "gggg");
            full("4 states", () -> x.included(0, 0));
        });
        test("9: of two different ones either way is asked by itself", x -> {
            build(x, 0, ONES_AT_THE_END);
            build(x, 1, ONES_WITHOUT_END);
            due("0 in 1", true, () -> x.included(0, 1));
            due("1 in 0", false, () -> x.included(1, 0));
        });
        test("9: included where no state of b alone takes it: b's runs part", x -> {
            build(x, 0, ALL_WORDS);
            build(x, 1, "-gg 001 002 011 012 101 212 111 202");
            due("all", true, () -> x.included(0, 1));
            build(x, 1, "-g- 000 010 011 002 111 202 212");
            due("ones at the end alone", false, () -> x.included(0, 1));
            witness("it", x, 0, 0, 1, 0);
            build(x, 1, "--g 000 010 001 112 202");
            due("0 1 0 0 .. behind all", false, () -> x.included(0, 1));
            witness("it", x, 0, 0, 1, 0);
        });
        test("9: IllegalArgumentException: no such automata", x -> {
            for (int a : NO_AUTOMATON) {
                refused("a " + a, () -> x.included(a, 0));
                refused("b " + a, () -> x.included(0, a));
                refused("both " + a, () -> x.included(a, a));
            }
            due("included(5, 0)", true, () -> x.included(5, 0));
            due("included(0, 5)", true, () -> x.included(0, 5));
        });
        test("9: IllegalArgumentException goes before IllegalStateException", x -> {
            build(x, 0, "----");
            for (int a : NO_AUTOMATON) {
                refused("a " + a, () -> x.included(a, 0));
            }
        });
        test("9: IllegalStateException: b has 4 states, though they do nothing", x -> {
            build(x, 0, "----");
            full("without states in it", () -> x.included(1, 0));
            build(x, 1, "- 000 010");
            full("an empty one in it", () -> x.included(1, 0));
            build(x, 1, ALL_WORDS);
            full("all words in it", () -> x.included(1, 0));
            due("it in all words", true, () -> x.included(0, 1));
        });
        test("9: IllegalStateException no more when trim takes one of 4 out, or a fourth is not there", x -> {
            build(x, 0, "g--- 000 001 102 200 003");
            build(x, 1, "g 000");
            full("4 states", () -> x.included(1, 0));
            due("trim", 3, () -> x.trim(0));
            due("3 states", true, () -> x.included(1, 0));
            x.state(0, true);
            full("4 states again", () -> x.included(1, 0));
            x.clear(0);
            due("no states", false, () -> x.included(1, 0));
        });
    }

    private static void witnessOrder() {
        test("10: the fewest letters in u and v together, though u has more then", x -> {
            // 1 0 0 .. has two letters, one of them in u; the word with no letter in u has three: 1 1 0 1 1 0 ..
            build(x, 0, "--gg 011 103 112 200 303");
            due("takes 1 1 0 again and again", true, () -> x.takes(0, 0, 0, 3, 0b110));
            due("included", false, () -> x.included(0, 1));
            witness("the shorter", x, 1, 1, 1, 0);
        });
        test("10: of several that with the fewest in u, though its number is greater", x -> {
            // Both 1 0 1 0 .. and 0 1 1 .. have two letters; the first of them has none in u.
            build(x, 0, "g--g 011 100 003 313");
            due("takes 0 1 1 ..", true, () -> x.takes(0, 1, 0, 1, 1));
            due("takes 1 0 1 0 ..", true, () -> x.takes(0, 0, 0, 2, 2));
            due("included", false, () -> x.included(0, 1));
            witness("that without u", x, 0, 0, 2, 2);
        });
        test("10: of several that whose u followed by v is the least number", x -> {
            build(x, 0, "--g- 011 101 112 202 003 313 312");
            due("takes 0 1 1 0 0 ..", true, () -> x.takes(0, 3, 0b011, 1, 0));
            due("takes 0 1 0 0 ..", true, () -> x.takes(0, 2, 0b01, 1, 0));
            due("takes 1 1 0 0 ..", true, () -> x.takes(0, 2, 0b11, 1, 0));
            due("included", false, () -> x.included(0, 1));
            witness("the least of three letters", x, 2, 1, 1, 0);
        });
        test("10: the least number counts u before v", x -> {
            // Of 0 1 1 .. and 1 0 0 .. the first is the less, though its v is greater.
            build(x, 0, "-gg 011 101 002 212");
            due("included", false, () -> x.included(0, 1));
            witness("u 0", x, 1, 0, 1, 1);
        });
        test("10: a lasso that both take is none, nor one that the first does not", x -> {
            build(x, 0, ALL_WORDS);
            build(x, 1, "g 000");
            due("included", false, () -> x.included(0, 1));
            witness("ones", x, 0, 0, 1, 1);
            build(x, 0, "g 010");
            due("included", false, () -> x.included(0, 1));
            witness("ones", x, 0, 0, 1, 1);
        });
    }

    private static void witnessLength() {
        for (String[] row : EIGHT_LETTERS) {
            test("10: a witness of 8 letters is told: " + row[2], x -> {
                build(x, 0, row[0]);
                build(x, 1, row[1]);
                due("included", false, () -> x.included(0, 1));
                due("witness", row[2], () -> witnessOf(x));
                takenByFirstAlone(x, row[2]);
            });
        }
        for (String[] row : MORE_LETTERS) {
            test("10: NoSuchElementException: the witness has more than 8 letters: " + row[2], x -> {
                build(x, 0, row[0]);
                build(x, 1, row[1]);
                due("included", false, () -> x.included(0, 1));
                noWitness("it is too long", x);
                takenByFirstAlone(x, row[2]);
            });
        }
        test("10: a witness of more than 8 letters puts out the one before, and is put out by the next", x -> {
            build(x, 0, MORE_LETTERS[0][0]);
            build(x, 1, MORE_LETTERS[0][1]);
            build(x, 2, ALL_WORDS);
            x.included(2, 5);
            witness("before", x, 0, 0, 1, 0);
            due("included", false, () -> x.included(0, 1));
            noWitness("the long one", x);
            due("included", false, () -> x.included(2, 5));
            witness("behind", x, 0, 0, 1, 0);
        });
    }

    private static void takenByFirstAlone(OmegaDesk x, String lasso) {
        String[] parts = lasso.split(" ");
        int m = Integer.parseInt(parts[0]);
        int u = Integer.parseInt(parts[1]);
        int n = Integer.parseInt(parts[2]);
        int v = Integer.parseInt(parts[3]);
        due("the first takes it", true, () -> x.takes(0, m, u, n, v));
        due("the second takes it", false, () -> x.takes(1, m, u, n, v));
    }

    private static void witnessWhat() {
        test("10: what 0 how many letters u has, 1 u, 2 how many v has, 3 v", x -> {
            build(x, 0, "g--- 012 111 112 201 210");
            build(x, 1, "g-- 002 011 012 110 200 211");
            x.included(0, 1);
            due("witness(3)", 53, () -> x.witness(3));
            due("witness(1)", 2, () -> x.witness(1));
            due("witness(0)", 2, () -> x.witness(0));
            due("witness(2)", 6, () -> x.witness(2));
            due("witness(3) again", 53, () -> x.witness(3));
        });
        test("10: IllegalArgumentException: what is not 0 .. 3", x -> {
            build(x, 0, ALL_WORDS);
            x.included(0, 1);
            for (int bad : new int[] {-1, 4, Integer.MIN_VALUE, Integer.MAX_VALUE}) {
                refused("witness(" + bad + ")", () -> x.witness(bad));
            }
            witness("behind it", x, 0, 0, 1, 0);
        });
        test("10: IllegalArgumentException goes before NoSuchElementException", x -> {
            refused("none yet, witness(-1)", () -> x.witness(-1));
            refused("none yet, witness(4)", () -> x.witness(4));
            x.included(0, 1);
            refused("answered true, witness(-1)", () -> x.witness(-1));
            refused("answered true, witness(4)", () -> x.witness(4));
            build(x, 0, MORE_LETTERS[0][0]);
            build(x, 1, MORE_LETTERS[0][1]);
            x.included(0, 1);
            refused("too long, witness(-1)", () -> x.witness(-1));
            refused("too long, witness(4)", () -> x.witness(4));
        });
    }

    private static void witnessLatest() {
        test("10: NoSuchElementException: there was none", x -> {
            noWitness("new", x);
            build(x, 0, ALL_WORDS);
            x.empty(0);
            x.takes(0, 0, 0, 1, 0);
            x.trim(0);
            noWitness("other calls", x);
            refused("no such automaton", () -> x.included(0, 6));
            noWitness("a refused one", x);
            build(x, 1, "----");
            full("4 states", () -> x.included(0, 1));
            noWitness("another refused one", x);
        });
        test("10: NoSuchElementException: the latest one answered true", x -> {
            build(x, 0, ALL_WORDS);
            due("false", false, () -> x.included(0, 1));
            due("true", true, () -> x.included(0, 0));
            noWitness("behind true", x);
            due("false", false, () -> x.included(0, 1));
            witness("behind false", x, 0, 0, 1, 0);
            due("true, of one without states", true, () -> x.included(1, 0));
            noWitness("behind true", x);
        });
        test("10: NoSuchElementException: the latest one answered true, and one behind it was refused", x -> {
            build(x, 0, ALL_WORDS);
            build(x, 2, "----");
            due("false", false, () -> x.included(0, 1));
            due("true", true, () -> x.included(0, 0));
            full("refused", () -> x.included(0, 2));
            refused("refused", () -> x.included(-1, 0));
            noWitness("behind them", x);
        });
        test("10: of the latest that answered false, though one behind it was refused", x -> {
            build(x, 0, ALL_WORDS);
            build(x, 1, "g 000");
            build(x, 2, "----");
            due("false", false, () -> x.included(0, 1));
            full("refused", () -> x.included(0, 2));
            witness("behind IllegalStateException", x, 0, 0, 1, 1);
            refused("refused", () -> x.included(6, 1));
            witness("behind IllegalArgumentException", x, 0, 0, 1, 1);
        });
        test("10: of the latest of two that answered false", x -> {
            build(x, 0, ALL_WORDS);
            build(x, 1, "g 000");
            build(x, 2, "g 010");
            x.included(0, 1);
            x.included(0, 2);
            witness("the second", x, 0, 0, 1, 0);
            x.included(2, 1);
            witness("the third", x, 0, 0, 1, 1);
        });
        test("10: the witness is that of the time of the call: later changes of the automata leave it", x -> {
            build(x, 0, "--g 011 112 202");
            due("included", false, () -> x.included(0, 1));
            x.edge(0, 0, 0, 2);
            witness("behind edge", x, 2, 3, 1, 0);
            x.state(0, true);
            witness("behind state", x, 2, 3, 1, 0);
            x.trim(0);
            witness("behind trim", x, 2, 3, 1, 0);
            x.unite(2, 3, 0);
            witness("behind unite", x, 2, 3, 1, 0);
            x.clear(0);
            witness("behind clear", x, 2, 3, 1, 0);
            x.empty(0);
            x.takes(0, 8, 255, 8, 255);
            witness("behind empty and takes", x, 2, 3, 1, 0);
            due("asked again", true, () -> x.included(0, 1));
            noWitness("behind it", x);
        });
    }

    public static void main(String[] args) {
        empty();
        takes();
        included();
        witnessOrder();
        witnessLength();
        witnessWhat();
        witnessLatest();
        end();
    }
}
