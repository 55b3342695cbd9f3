/**
 * What the tests of this directory share: calls held against their due answers, and automata told by a text such as
 * "-g 001 110": its states, 'g' for a good one, then its edges, each from, letter and to.
 */
abstract class Checks {
    static final int[] NO_AUTOMATON = {-1, 6, Integer.MIN_VALUE, Integer.MAX_VALUE};
    static final String REFUSED = "IllegalArgumentException";
    static final String FULL = "IllegalStateException";
    static final String NONE = "NoSuchElementException";

    private static int wrong = 0;
    private static String sentence = "";

    interface Call {
        Object run();
    }

    /** One test: what it holds, and its body, which gets a new object. */
    interface Body {
        void run(OmegaDesk x);
    }

    static void test(String text, Body body) {
        sentence = text + ": ";
        try {
            body.run(new OmegaDesk());
        } catch (RuntimeException e) {
            fault("a call that should answer threw " + e);
        }
        sentence = "";
    }

    static void fault(String text) {
        wrong++;
        System.out.println(sentence + text);
    }

    static Object answer(Call call) {
        try {
            return call.run();
        } catch (RuntimeException e) {
            return e.getClass().getSimpleName();
        }
    }

    static void due(String what, Object want, Call call) {
        Object got = answer(call);
        if (!want.equals(got)) {
            fault(what + " answered " + got + ", due is " + want);
        }
    }

    static void refused(String what, Call call) {
        due(what, REFUSED, call);
    }

    static void full(String what, Call call) {
        due(what, FULL, call);
    }

    static void noWitness(String what, OmegaDesk x) {
        due(what + ": witness", NONE + " " + NONE + " " + NONE + " " + NONE, () -> witnessOf(x));
    }

    static void witness(String what, OmegaDesk x, int m, int u, int n, int v) {
        due(what + ": witness", m + " " + u + " " + n + " " + v, () -> witnessOf(x));
    }

    static String witnessOf(OmegaDesk x) {
        return answer(() -> x.witness(0)) + " " + answer(() -> x.witness(1)) + " " + answer(() -> x.witness(2)) + " "
            + answer(() -> x.witness(3));
    }

    static void build(OmegaDesk x, int automaton, String text) {
        x.clear(automaton);
        String[] parts = text.split(" ");
        for (char c : parts[0].toCharArray()) {
            x.state(automaton, c == 'g');
        }
        for (int i = 1; i < parts.length; i++) {
            x.edge(automaton, parts[i].charAt(0) - '0', parts[i].charAt(1) - '0', parts[i].charAt(2) - '0');
        }
    }

    static String told(OmegaDesk x, int automaton) {
        StringBuilder text = new StringBuilder();
        int n = x.states(automaton);
        for (int s = 0; s < n; s++) {
            text.append(x.good(automaton, s) ? 'g' : '-');
        }
        for (int f = 0; f < n; f++) {
            for (int l = 0; l < 2; l++) {
                for (int t = 0; t < n; t++) {
                    if (x.has(automaton, f, l, t)) {
                        text.append(' ').append(f).append(l).append(t);
                    }
                }
            }
        }
        return text.toString();
    }

    /** All that can be read of an object. */
    static String all(OmegaDesk x) {
        StringBuilder text = new StringBuilder();
        for (int a = 0; a < 6; a++) {
            text.append(told(x, a)).append(" / ");
        }
        return text.append(witnessOf(x)).toString();
    }

    static void end() {
        System.out.println(wrong == 0 ? "all answers are as due" : wrong + " answers are not as due");
        if (wrong != 0) {
            System.exit(1);
        }
    }
}
