import java.util.Arrays;
import java.util.NoSuchElementException;

/** Six automata on words without end, and questions about the words that they take. */
public final class OmegaDesk {
    private static final int AUTOMATA = 6;
    private static final int LETTERS = 2;
    private static final int MOST_STATES = 4;
    private static final int LONGEST = 8;

    private final Automaton[] automata;
    private final Automaton spare;
    private final Refuter refuter;
    private final LassoFinder finder;

    public OmegaDesk() {
        automata = new Automaton[AUTOMATA];
        for (int number = 0; number < AUTOMATA; number++) {
            automata[number] = new Automaton();
        }
        spare = new Automaton();
        refuter = new Refuter();
        finder = new LassoFinder();
    }

    public int state(int automaton, boolean good) throws IllegalArgumentException, IllegalStateException {
        Automaton chosen = automatonAt(automaton);
        if (chosen.size >= MOST_STATES) {
            throw new IllegalStateException("the automaton has 4 states");
        }
        return chosen.addState(good);
    }

    public boolean edge(int automaton, int from, int letter, int to) throws IllegalArgumentException {
        Automaton chosen = automatonWithPlaces(automaton, from, letter, to);
        boolean isNew = !chosen.joins(from, letter, to);
        chosen.join(from, letter, to);
        return isNew;
    }

    public void clear(int automaton) throws IllegalArgumentException {
        automatonAt(automaton).wipe();
    }

    public int unite(int a, int b, int c) throws IllegalArgumentException, IllegalStateException {
        Automaton first = automatonAt(a);
        Automaton second = automatonAt(b);
        Automaton union = automatonAt(c);
        if (a == b || a == c || b == c) {
            throw new IllegalArgumentException("two of the automata are the same one");
        }
        if (1 + first.size + second.size > MOST_STATES) {
            throw new IllegalStateException("the union would have more than 4 states");
        }
        union.wipe();
        union.addState(false);
        union.append(first);
        union.append(second);
        return union.size;
    }

    public int trim(int automaton) throws IllegalArgumentException {
        Automaton chosen = automatonAt(automaton);
        spare.copy(chosen);
        chosen.becomePart(spare, spare.usefulStates());
        return chosen.size;
    }

    public boolean empty(int automaton) throws IllegalArgumentException {
        return automatonAt(automaton).usefulStates() == 0;
    }

    public boolean takes(int automaton, int m, int u, int n, int v) throws IllegalArgumentException {
        Automaton chosen = automatonAt(automaton);
        if (m < 0 || m > LONGEST || n < 1 || n > LONGEST) {
            throw new IllegalArgumentException("a word of the lasso is too short or too long");
        }
        if (!isWord(m, u) || !isWord(n, v)) {
            throw new IllegalArgumentException("a number has more bits than its word has letters");
        }
        int head = chosen.passageOf(m, u);
        int tail = chosen.passageOf(n, v);
        return (Passage.fromStart(head) & Passage.takenRepeated(tail)) != 0;
    }

    public boolean included(int a, int b) throws IllegalArgumentException, IllegalStateException {
        Automaton inner = automatonAt(a);
        Automaton outer = automatonAt(b);
        if (outer.size >= MOST_STATES) {
            throw new IllegalStateException("the second automaton has 4 states");
        }
        if (!refuter.refutes(inner, outer)) {
            finder.forget();
            return true;
        }
        finder.search(inner, outer);
        return false;
    }

    public int witness(int what) throws IllegalArgumentException, NoSuchElementException {
        if (what < 0 || what > 3) {
            throw new IllegalArgumentException("a witness is asked for with 0 to 3");
        }
        if (!finder.found) {
            throw new NoSuchElementException("there is no witness to tell");
        }
        switch (what) {
            case 0: return finder.headLength;
            case 1: return finder.head;
            case 2: return finder.tailLength;
            default: return finder.tail;
        }
    }

    public int states(int automaton) throws IllegalArgumentException {
        return automatonAt(automaton).size;
    }

    public boolean good(int automaton, int state) throws IllegalArgumentException {
        Automaton chosen = automatonAt(automaton);
        if (!chosen.hasState(state)) {
            throw new IllegalArgumentException("no such state");
        }
        return chosen.isGood(state);
    }

    public boolean has(int automaton, int from, int letter, int to) throws IllegalArgumentException {
        return automatonWithPlaces(automaton, from, letter, to).joins(from, letter, to);
    }

    private Automaton automatonAt(int number) {
        if (number < 0 || number >= AUTOMATA) {
            throw new IllegalArgumentException("no such automaton");
        }
        return automata[number];
    }

    private Automaton automatonWithPlaces(int number, int from, int letter, int to) {
        Automaton chosen = automatonAt(number);
        if (!chosen.hasState(from) || !chosen.hasState(to)) {
            throw new IllegalArgumentException("no such state");
        }
        if (letter < 0 || letter >= LETTERS) {
            throw new IllegalArgumentException("no such letter");
        }
        return chosen;
    }

    private static boolean isWord(int length, int number) {
        return number >= 0 && number < 1 << length;
    }

    /**
     * One automaton. Sets of states are bits of an int, state 0 the lowest.
     * What follows a set is kept for all 16 sets and both letters, since the searches ask for it
     * far more often than edges are added.
     */
    private static final class Automaton {
        private static final int SETS = 1 << MOST_STATES;

        private int size = 0;
        private int goodStates = 0;
        private final int[] followers = new int[LETTERS * SETS];

        boolean hasState(int number) {
            return number >= 0 && number < size;
        }

        boolean isGood(int number) {
            return (goodStates >> number & 1) != 0;
        }

        boolean joins(int from, int letter, int to) {
            return (followersOf(1 << from, letter) >> to & 1) != 0;
        }

        int followersOf(int set, int letter) {
            return followers[(letter & 1) * SETS + (set & SETS - 1)];
        }

        void wipe() {
            size = 0;
            goodStates = 0;
            Arrays.fill(followers, 0);
        }

        int addState(boolean isGood) {
            int number = size;
            size = number + 1;
            if (isGood) {
                goodStates |= 1 << number;
            }
            return number;
        }

        void join(int from, int letter, int to) {
            for (int set = 0; set < SETS; set++) {
                if ((set >> from & 1) != 0) {
                    followers[(letter & 1) * SETS + set] |= 1 << to;
                }
            }
        }

        void copy(Automaton other) {
            size = other.size;
            goodStates = other.goodStates;
            System.arraycopy(other.followers, 0, followers, 0, LETTERS * SETS);
        }

        /** Puts another one's states behind the own ones; state 0 gets the edges of the other state 0 too. */
        void append(Automaton other) {
            int shift = size;
            for (int number = 0; number < other.size; number++) {
                addState(other.isGood(number));
            }
            for (int letter = 0; letter < LETTERS; letter++) {
                for (int from = 0; from < other.size; from++) {
                    int targets = other.followersOf(1 << from, letter) << shift;
                    joinAll(shift + from, letter, targets);
                    if (from == 0) {
                        joinAll(0, letter, targets);
                    }
                }
            }
        }

        private void joinAll(int from, int letter, int targets) {
            for (int to = 0; to < size; to++) {
                if ((targets >> to & 1) != 0) {
                    join(from, letter, to);
                }
            }
        }

        /** Becomes what is left of another one when only some of its states stay. */
        void becomePart(Automaton whole, int kept) {
            wipe();
            for (int number = 0; number < whole.size; number++) {
                if ((kept >> number & 1) != 0) {
                    addState(whole.isGood(number));
                }
            }
            for (int letter = 0; letter < LETTERS; letter++) {
                for (int from = 0; from < whole.size; from++) {
                    if ((kept >> from & 1) != 0) {
                        int targets = whole.followersOf(1 << from, letter) & kept;
                        joinAll(placeAmong(kept, from), letter, packed(targets, kept));
                    }
                }
            }
        }

        private static int packed(int set, int kept) {
            int packed = 0;
            for (int number = 0; number < MOST_STATES; number++) {
                if ((set >> number & 1) != 0) {
                    packed |= 1 << placeAmong(kept, number);
                }
            }
            return packed;
        }

        private static int placeAmong(int kept, int number) {
            return Integer.bitCount(kept & (1 << number) - 1);
        }

        /** The states that a run which is in good states without end can be in. */
        int usefulStates() {
            int noLetter = emptyPassage((1 << size) - 1);
            int anyEdge = longerPassage(noLetter, 0) | longerPassage(noLetter, 1);
            int reached = 1 | Passage.fromStart(Passage.chained(anyEdge));
            return reached & Passage.takenRepeated(anyEdge);
        }

        /** The passage of the word without letters, told for the given states alone. */
        int emptyPassage(int origins) {
            int passage = 0;
            for (int number = 0; number < size; number++) {
                passage |= (origins >> number & 1) << number << Passage.ROW * number;
            }
            return passage;
        }

        /** The passage of a word with one more letter at its end. */
        int longerPassage(int passage, int letter) {
            int longer = 0;
            for (int from = 0; from < size; from++) {
                int ends = followersOf(Passage.ends(passage, from), letter);
                int goodEnds = followersOf(Passage.goodEnds(passage, from), letter) | ends & goodStates;
                longer |= (ends | goodEnds << MOST_STATES) << Passage.ROW * from;
            }
            return longer;
        }

        int passageOf(int length, int word) {
            int passage = emptyPassage((1 << size) - 1);
            for (int place = length - 1; place >= 0; place--) {
                passage = longerPassage(passage, word >> place & 1);
            }
            return passage;
        }
    }

    /**
     * Reads passages. A passage is all that matters of what a finite word does in an automaton:
     * for each state, the ends of its ways with that word, and the ends of those that come to a
     * good state behind their beginning. It fits into one int, eight bits for each state, so that
     * searches make no objects. Passages of several words may be joined by |.
     */
    private static final class Passage {
        private static final int ROW = 2 * MOST_STATES;
        private static final int SET = (1 << MOST_STATES) - 1;
        private static final int ALL_GOOD_ENDS = 0xF0F0F0F0;

        static int ends(int passage, int from) {
            return passage >>> ROW * from & SET;
        }

        static int goodEnds(int passage, int from) {
            return passage >>> ROW * from + MOST_STATES & SET;
        }

        static int fromStart(int passage) {
            return ends(passage, 0);
        }

        /** The ends of ways with the passage's words one behind another, one or more; good ends are not kept up. */
        static int chained(int passage) {
            int chain = passage;
            for (int between = 0; between < MOST_STATES; between++) {
                for (int from = 0; from < MOST_STATES; from++) {
                    if ((ends(chain, from) >> between & 1) != 0) {
                        chain |= ends(chain, between) << ROW * from;
                    }
                }
            }
            return chain;
        }

        /** The states from which the passage's word, again and again without end, is taken. */
        static int takenRepeated(int passage) {
            if ((passage & ALL_GOOD_ENDS) == 0) {
                return 0;
            }
            int chain = chained(passage);
            int cores = 0;
            for (int from = 0; from < MOST_STATES; from++) {
                if (comesBack(chain, goodEnds(passage, from), from)) {
                    cores |= 1 << from;
                }
            }
            int taken = 0;
            for (int from = 0; from < MOST_STATES; from++) {
                if ((ends(chain, from) & cores) != 0) {
                    taken |= 1 << from;
                }
            }
            return taken;
        }

        private static boolean comesBack(int chain, int set, int goal) {
            for (int from = 0; from < MOST_STATES; from++) {
                if ((set >> from & 1) != 0 && (ends(chain, from) >> goal & 1) != 0) {
                    return true;
                }
            }
            return false;
        }
    }

    /**
     * Decides whether an inner automaton takes a word that an outer one of at most three states does not.
     *
     * If there is such a word there is one u v v v .. where u leads the inner one to a good state and
     * v leads it from there back. Whether the outer one takes that word hangs on the set of
     * states that u leads it to and on its passage of v alone. So it is enough to go through the
     * passages that the outer one has, each with all ways of the inner one with words of that passage.
     */
    private static final class Refuter {
        // Of all automata of three states none has more than 252 passages (PassageCountTest counts
        // them), so the table stays three quarters free.
        private static final int SLOT_BITS = 10;
        private static final int SLOTS = 1 << SLOT_BITS;
        private static final int SPREAD = 0x9E3779B1;
        private static final int OUTER_SETS = 8;
        private static final int MEETING_PAIRS = MOST_STATES * OUTER_SETS;
        private static final int BITS_OF_PASSAGE = 32;

        // One more than the outer passage in the slot, since 0 means that the slot is free.
        private final int[] keys = new int[SLOTS];
        private final int[] seenWays = new int[SLOTS];
        private final int[] freshWays = new int[SLOTS];
        private final int[] queue = new int[SLOTS];
        private int queueStart = 0;
        private int queued = 0;

        // For each inner state, which sets of outer states a word leads to that leads to it.
        private final int[] meetings = new int[MOST_STATES];

        boolean refutes(Automaton inner, Automaton outer) {
            int origins = inner.usefulStates() & inner.goodStates;
            if (origins == 0) {
                return false;
            }
            reset();
            findMeetings(inner, outer);
            offer(outer.emptyPassage(OUTER_SETS - 1), inner.emptyPassage(origins));
            for (int turn = 0; turn < SLOTS * BITS_OF_PASSAGE && queued > 0; turn++) {
                int slot = nextQueued();
                int passage = keys[slot] - 1;
                int ways = freshWays[slot];
                freshWays[slot] = 0;
                for (int letter = 0; letter < LETTERS; letter++) {
                    int longer = outer.longerPassage(passage, letter);
                    int added = offer(longer, inner.longerPassage(ways, letter));
                    if (refutesWith(longer, added)) {
                        return true;
                    }
                }
            }
            return false;
        }

        private void reset() {
            Arrays.fill(keys, 0);
            Arrays.fill(seenWays, 0);
            Arrays.fill(freshWays, 0);
            Arrays.fill(meetings, 0);
            queueStart = 0;
            queued = 0;
        }

        private void findMeetings(Automaton inner, Automaton outer) {
            int outerStart = outer.size > 0 ? 1 : 0;
            meetings[0] = 1 << outerStart;
            boolean grown = true;
            for (int round = 0; round < MEETING_PAIRS && grown; round++) {
                grown = false;
                for (int state = 0; state < inner.size; state++) {
                    for (int set = 0; set < OUTER_SETS; set++) {
                        if ((meetings[state] >> set & 1) != 0 && spreadMeeting(inner, outer, state, set)) {
                            grown = true;
                        }
                    }
                }
            }
        }

        private boolean spreadMeeting(Automaton inner, Automaton outer, int state, int set) {
            boolean grown = false;
            for (int letter = 0; letter < LETTERS; letter++) {
                int targets = inner.followersOf(1 << state, letter);
                int meeting = 1 << outer.followersOf(set, letter);
                for (int to = 0; to < inner.size; to++) {
                    if ((targets >> to & 1) != 0 && (meetings[to] & meeting) == 0) {
                        meetings[to] |= meeting;
                        grown = true;
                    }
                }
            }
            return grown;
        }

        /** Notes inner ways with words of an outer passage: those of them that were not known. */
        private int offer(int passage, int ways) {
            int slot = slotOf(passage);
            if (slot < 0) {
                return 0;
            }
            int added = ways & ~seenWays[slot];
            if (added != 0) {
                seenWays[slot] |= added;
                if (freshWays[slot] == 0) {
                    enqueue(slot);
                }
                freshWays[slot] |= added;
            }
            return added;
        }

        private int slotOf(int passage) {
            int slot = passage * SPREAD >>> BITS_OF_PASSAGE - SLOT_BITS;
            for (int probe = 0; probe < SLOTS; probe++) {
                if (keys[slot] == 0) {
                    keys[slot] = passage + 1;
                }
                if (keys[slot] == passage + 1) {
                    return slot;
                }
                slot = slot + 1 & SLOTS - 1;
            }
            return -1;
        }

        private void enqueue(int slot) {
            queue[queueStart + queued & SLOTS - 1] = slot;
            queued++;
        }

        private int nextQueued() {
            int slot = queue[queueStart];
            queueStart = queueStart + 1 & SLOTS - 1;
            queued--;
            return slot;
        }

        private boolean refutesWith(int passage, int ways) {
            int loops = 0;
            for (int state = 0; state < MOST_STATES; state++) {
                if ((Passage.goodEnds(ways, state) >> state & 1) != 0) {
                    loops |= meetings[state];
                }
            }
            if (loops == 0) {
                return false;
            }
            int taken = Passage.takenRepeated(passage);
            for (int set = 0; set < OUTER_SETS; set++) {
                if ((loops >> set & 1) != 0 && (set & taken) == 0) {
                    return true;
                }
            }
            return false;
        }
    }

    /** The passages of all words of up to eight letters; a word's place is its number with a bit 1 before it. */
    private static final class WordTable {
        private static final int PLACES = 2 << LONGEST;

        private final int[] passages = new int[PLACES];
        private final int[] takenRepeated = new int[PLACES];

        void begin(Automaton automaton) {
            passages[1] = automaton.emptyPassage((1 << automaton.size) - 1);
        }

        void addWords(Automaton automaton, int length) {
            for (int place = 1 << length; place < 2 << length && place < PLACES; place++) {
                int passage = automaton.longerPassage(passages[place >> 1], place & 1);
                passages[place] = passage;
                takenRepeated[place] = Passage.takenRepeated(passage);
            }
        }

        boolean takesLasso(int headPlace, int tailPlace) {
            return (Passage.fromStart(passages[headPlace]) & takenRepeated[tailPlace]) != 0;
        }
    }

    /** Finds the first lasso, in the order of witnesses, that one automaton takes and another does not. */
    private static final class LassoFinder {
        private final WordTable innerWords = new WordTable();
        private final WordTable outerWords = new WordTable();
        private boolean found = false;
        private int headLength = 0;
        private int head = 0;
        private int tailLength = 0;
        private int tail = 0;

        void forget() {
            found = false;
        }

        void search(Automaton inner, Automaton outer) {
            found = false;
            innerWords.begin(inner);
            outerWords.begin(outer);
            for (int letters = 1; letters <= LONGEST && !found; letters++) {
                innerWords.addWords(inner, letters);
                outerWords.addWords(outer, letters);
                for (int inHead = 0; inHead < letters && !found; inHead++) {
                    searchSplit(inHead, letters - inHead);
                }
            }
        }

        private void searchSplit(int inHead, int inTail) {
            int tailMask = (1 << inTail) - 1;
            for (int number = 0; number < 1 << inHead + inTail; number++) {
                int headPlace = 1 << inHead | number >> inTail;
                int tailPlace = 1 << inTail | number & tailMask;
                if (innerWords.takesLasso(headPlace, tailPlace) && !outerWords.takesLasso(headPlace, tailPlace)) {
                    found = true;
                    headLength = inHead;
                    head = number >> inTail;
                    tailLength = inTail;
                    tail = number & tailMask;
                    return;
                }
            }
        }
    }
}
