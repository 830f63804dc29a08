public final class AutomataSuite {
    public static final int BAD = -1;
    public static final int NONE = -2;

    private static final int MACHINES = 2;
    private static final int STATES = 5;
    private static final int LETTERS = 2;
    private static final int SIZE_ENGINES = 4;
    private static final int EQUAL_ENGINES = 3;
    private static final int MOST_COUNTED_LETTERS = 12;
    private static final int MOST_TOLD_LETTERS = 29;

    /** One above the greatest word of ten letters. */
    private static final int WORDS = 2048;

    /** Sets of states of one machine: 2 to the power STATES. */
    private static final int SETS = 32;

    /** Sets of states of both machines, side by side: MACHINES * SETS. */
    private static final int NODES = 64;

    /** A set of states of each machine: SETS * SETS. */
    private static final int PAIRS = 1024;

    /** A set of states and a letter, for both machines: NODES * LETTERS. */
    private static final int STEPS = 128;

    // The arrows stand in the entries of the one-state sets. The larger sets are kept joined
    // up beside them, so that every search below steps with one look into the table.
    private final int[] onward = new int[STEPS];
    private final int[] backward = new int[STEPS];
    private final int[] beginSet = new int[MACHINES];
    private final int[] endSet = new int[MACHINES];

    // What follows is working space: each search writes it before it reads it.
    private final int[] classOf = new int[NODES];
    private final int[] finerClassOf = new int[NODES];
    private final int[] signature = new int[NODES];
    private final boolean[] apart = new boolean[PAIRS];
    private final int[] groups = new int[SETS];
    private final int[] leader = new int[NODES];
    private final int[] mergedOne = new int[NODES];
    private final int[] mergedTwo = new int[NODES];
    private final int[] pairs = new int[PAIRS];
    private final int[] pairWord = new int[PAIRS];
    private final int[] pairLetters = new int[PAIRS];
    private final boolean[] pairSeen = new boolean[PAIRS];

    public AutomataSuite() {
    }

    // ---- changing a machine ----

    public boolean arrow(int m, int s, int letter, int t) {
        if (!isArrowInRange(m, s, letter, t) || hasArrow(m, s, letter, t)) {
            return false;
        }
        flipArrow(m, s, letter, t);
        return true;
    }

    public boolean cut(int m, int s, int letter, int t) {
        if (!isArrowInRange(m, s, letter, t) || !hasArrow(m, s, letter, t)) {
            return false;
        }
        flipArrow(m, s, letter, t);
        return true;
    }

    public boolean ends(int m, int begin, int end) {
        if (!isBelow(m, MACHINES) || !isBelow(begin, SETS) || !isBelow(end, SETS)) {
            return false;
        }
        beginSet[m] = begin;
        endSet[m] = end;
        return true;
    }

    public boolean turn(int m) {
        if (!isBelow(m, MACHINES)) {
            return false;
        }
        int start = stepOf(m, 0, 0);
        for (int i = 0; i < LETTERS * SETS; i++) {
            int kept = onward[start + i];
            onward[start + i] = backward[start + i];
            backward[start + i] = kept;
        }
        int keptSet = beginSet[m];
        beginSet[m] = endSet[m];
        endSet[m] = keptSet;
        return true;
    }

    // ---- asking about words ----

    public boolean accepts(int m, int word) {
        if (!isBelow(m, MACHINES) || !isWord(word)) {
            return false;
        }
        return acceptsWord(m, word);
    }

    public int after(int m, int word) {
        if (!isBelow(m, MACHINES) || !isWord(word)) {
            return BAD;
        }
        return statesAfter(m, word);
    }

    public int count(int m, int n) {
        if (!isBelow(m, MACHINES) || !isBelow(n, MOST_COUNTED_LETTERS + 1)) {
            return BAD;
        }
        return acceptedBetween(m, 1 << n, 2 << n);
    }

    public int rank(int m, int word) {
        if (!isBelow(m, MACHINES) || !isWord(word)) {
            return BAD;
        }
        return acceptedBetween(m, 1, word);
    }

    public int least(int m) {
        if (!isBelow(m, MACHINES)) {
            return BAD;
        }
        // A shortest way comes to no state twice, so it has fewer letters than there are
        // states, and the numbers of all words that short are below SETS.
        for (int word = 1; word < SETS; word++) {
            if (acceptsWord(m, word)) {
                return word;
            }
        }
        return NONE;
    }

    // ---- asking about a whole machine ----

    public int size(int engine, int m) {
        if (!isBelow(engine, SIZE_ENGINES) || !isBelow(m, MACHINES)) {
            return BAD;
        }
        return sizeFoundBy(engine, m);
    }

    public boolean agree(int engine, int other) {
        if (!isBelow(engine, SIZE_ENGINES) || !isBelow(other, SIZE_ENGINES)) {
            return false;
        }
        for (int m = 0; m < MACHINES; m++) {
            if (sizeFoundBy(engine, m) != sizeFoundBy(other, m)) {
                return false;
            }
        }
        return true;
    }

    public boolean endless(int m) {
        if (!isBelow(m, MACHINES)) {
            return false;
        }
        // Words without end need a way that comes round to a live state again.
        int alive = liveStates(m);
        for (int s = 0; s < STATES; s++) {
            if (hasBit(alive, s) && isOnRound(m, s)) {
                return true;
            }
        }
        return false;
    }

    public int live(int m) {
        if (!isBelow(m, MACHINES)) {
            return BAD;
        }
        return liveStates(m);
    }

    // ---- comparing the machines ----

    public boolean equal(int engine) {
        if (!isBelow(engine, EQUAL_ENGINES)) {
            return false;
        }
        switch (engine) {
            case 0:
                return isEqualByWalk();
            case 1:
                return isEqualByMerging();
            default:
                return isEqualByClasses();
        }
    }

    public boolean covers(int m) {
        if (!isBelow(m, MACHINES)) {
            return false;
        }
        int found = walkPairs();
        for (int i = 0; i < found && i < PAIRS; i++) {
            if (pairAccepts(1 - m, pairs[i]) && !pairAccepts(m, pairs[i])) {
                return false;
            }
        }
        return true;
    }

    public int difference() {
        int found = walkPairs();
        int first = firstSplitPair(found);
        if (first == NONE) {
            return NONE;
        }
        return pairLetters[first] > MOST_TOLD_LETTERS ? BAD : pairWord[first];
    }

    // ---- ranges ----

    private static boolean isBelow(int value, int bound) {
        return value >= 0 && value < bound;
    }

    private static boolean isWord(int word) {
        return word >= 1 && word < WORDS;
    }

    private static boolean isArrowInRange(int m, int s, int letter, int t) {
        return isBelow(m, MACHINES) && isBelow(s, STATES)
                && isBelow(letter, LETTERS) && isBelow(t, STATES);
    }

    private static boolean hasBit(int bits, int place) {
        return (bits >>> place & 1) != 0;
    }

    // ---- arrows and steps ----

    private static int stepOf(int m, int set, int letter) {
        return (m * SETS + set) * LETTERS + letter;
    }

    private boolean hasArrow(int m, int s, int letter, int t) {
        int step = stepOf(m, 1 << s, letter);
        return hasBit(onward[step], t);
    }

    private void flipArrow(int m, int s, int letter, int t) {
        onward[stepOf(m, 1 << s, letter)] ^= 1 << t;
        backward[stepOf(m, 1 << t, letter)] ^= 1 << s;
        joinSets(onward, m, letter);
        joinSets(backward, m, letter);
    }

    private static void joinSets(int[] table, int m, int letter) {
        for (int set = 1; set < SETS; set++) {
            int state = set & -set;
            int byState = table[stepOf(m, state, letter)];
            int byOthers = table[stepOf(m, set - state, letter)];
            table[stepOf(m, set, letter)] = byState | byOthers;
        }
    }

    private boolean isEnding(int m, int set) {
        return (set & endSet[m]) != 0;
    }

    // ---- words ----

    private static int lettersIn(int word) {
        int letters = 0;
        for (int i = 1; i <= MOST_COUNTED_LETTERS; i++) {
            if (word >> i != 0) {
                letters = i;
            }
        }
        return letters;
    }

    private int statesAfter(int m, int word) {
        int set = beginSet[m];
        for (int i = lettersIn(word) - 1; i >= 0; i--) {
            set = onward[stepOf(m, set, word >> i & 1)];
        }
        return set;
    }

    private boolean acceptsWord(int m, int word) {
        int set = statesAfter(m, word);
        return isEnding(m, set);
    }

    private int acceptedBetween(int m, int from, int to) {
        int accepted = 0;
        for (int word = from; word < to; word++) {
            if (acceptsWord(m, word)) {
                accepted++;
            }
        }
        return accepted;
    }

    // ---- ways through a machine ----

    private static int statesReached(int[] table, int m, int from) {
        int reached = from;
        // A state that can be reached at all is reached in fewer steps than there are states.
        for (int i = 1; i < STATES; i++) {
            reached |= table[stepOf(m, reached, 0)] | table[stepOf(m, reached, 1)];
        }
        return reached;
    }

    private int liveStates(int m) {
        int begun = statesReached(onward, m, beginSet[m]);
        int ending = statesReached(backward, m, endSet[m]);
        return begun & ending;
    }

    private boolean isOnRound(int m, int s) {
        int next = onward[stepOf(m, 1 << s, 0)] | onward[stepOf(m, 1 << s, 1)];
        int reached = statesReached(onward, m, next);
        return hasBit(reached, s);
    }

    /** The sets that words lead to from one set, as bits: bit k for the set written k. */
    private static int setsReached(int[] table, int m, int from) {
        int reached = 1 << from;
        // Every round but the last finds a set more, and there are only SETS of them.
        for (int round = 0; round < SETS; round++) {
            int wider = reached;
            for (int set = 0; set < SETS; set++) {
                if (hasBit(reached, set)) {
                    wider |= 1 << table[stepOf(m, set, 0)];
                    wider |= 1 << table[stepOf(m, set, 1)];
                }
            }
            if (wider == reached) {
                break;
            }
            reached = wider;
        }
        return reached;
    }

    // ---- engines for size ----

    private int sizeFoundBy(int engine, int m) {
        switch (engine) {
            case 0:
                return sizeByClasses(m);
            case 1:
                return sizeByMarks(m);
            case 2:
                return sizeByTurningTwice(m);
            default:
                return sizeByRows(m);
        }
    }

    /** Engine 0: splits all sets into finer and finer classes (Moore). */
    private int sizeByClasses(int m) {
        sortIntoClasses();
        int reached = setsReached(onward, m, beginSet[m]);
        long seen = 0L;
        int found = 0;
        for (int set = 0; set < SETS; set++) {
            int own = classOf[m * SETS + set];
            if (hasBit(reached, set) && (seen >>> own & 1L) == 0L) {
                seen |= 1L << own;
                found++;
            }
        }
        return found;
    }

    /** Engine 1: marks each two sets that some word tells apart. */
    private int sizeByMarks(int m) {
        markEndingApart(m);
        // Every round but the last marks a pair more, and there are only PAIRS of them.
        for (int round = 0; round < PAIRS; round++) {
            if (!markMoreApart(m)) {
                break;
            }
        }
        int reached = setsReached(onward, m, beginSet[m]);
        int found = 0;
        for (int set = 0; set < SETS; set++) {
            if (hasBit(reached, set) && !isLikeEarlier(set, reached)) {
                found++;
            }
        }
        return found;
    }

    private void markEndingApart(int m) {
        for (int one = 0; one < SETS; one++) {
            for (int two = 0; two < SETS; two++) {
                apart[one * SETS + two] = isEnding(m, one) != isEnding(m, two);
            }
        }
    }

    private boolean markMoreApart(int m) {
        boolean marked = false;
        for (int one = 0; one < SETS; one++) {
            for (int two = 0; two < SETS; two++) {
                if (!apart[one * SETS + two] && isApartAfterLetter(m, one, two)) {
                    apart[one * SETS + two] = true;
                    marked = true;
                }
            }
        }
        return marked;
    }

    private boolean isApartAfterLetter(int m, int one, int two) {
        for (int letter = 0; letter < LETTERS; letter++) {
            int nextOne = onward[stepOf(m, one, letter)];
            int nextTwo = onward[stepOf(m, two, letter)];
            if (apart[nextOne * SETS + nextTwo]) {
                return true;
            }
        }
        return false;
    }

    private boolean isLikeEarlier(int set, int reached) {
        for (int earlier = 0; earlier < set; earlier++) {
            if (hasBit(reached, earlier) && !apart[earlier * SETS + set]) {
                return true;
            }
        }
        return false;
    }

    /** Engine 2: makes the machine plain backwards, then that one backwards (Brzozowski). */
    private int sizeByTurningTwice(int m) {
        int inner = setsReached(backward, m, endSet[m]);
        groups[0] = setsMeeting(inner, beginSet[m]);
        int found = 1;
        for (int i = 0; i < found && i < SETS; i++) {
            for (int letter = 0; letter < LETTERS; letter++) {
                int next = groupAfter(m, inner, groups[i], letter);
                found = noteGroup(next, found);
            }
        }
        return found;
    }

    private int groupAfter(int m, int inner, int group, int letter) {
        int next = 0;
        for (int set = 0; set < SETS; set++) {
            int innerNext = backward[stepOf(m, set, letter)];
            if (hasBit(inner, set) && hasBit(group, innerNext)) {
                next |= 1 << set;
            }
        }
        return next;
    }

    /** Engine 3: counts the different rows of a table of word beginnings by word ends (Nerode). */
    private int sizeByRows(int m) {
        int rows = setsReached(onward, m, beginSet[m]);
        int columns = setsReached(backward, m, endSet[m]);
        int found = 0;
        for (int set = 0; set < SETS; set++) {
            if (hasBit(rows, set)) {
                int row = setsMeeting(columns, set);
                found = noteGroup(row, found);
            }
        }
        return found;
    }

    private static int setsMeeting(int sets, int states) {
        int meeting = 0;
        for (int set = 0; set < SETS; set++) {
            if (hasBit(sets, set) && (set & states) != 0) {
                meeting |= 1 << set;
            }
        }
        return meeting;
    }

    private int noteGroup(int group, int found) {
        for (int i = 0; i < found && i < SETS; i++) {
            if (groups[i] == group) {
                return found;
            }
        }
        // No machine of five states needs more than SETS groups: the look is for safety alone.
        if (found >= SETS) {
            return found;
        }
        groups[found] = group;
        return found + 1;
    }

    // ---- classes of the sets of both machines ----

    private int nodeAfter(int node, int letter) {
        return node - node % SETS + onward[node * LETTERS + letter];
    }

    private boolean isEndingNode(int node) {
        return isEnding(node / SETS, node % SETS);
    }

    private void sortIntoClasses() {
        for (int node = 0; node < NODES; node++) {
            classOf[node] = isEndingNode(node) ? 1 : 0;
        }
        int classes = 0;
        // Every round but the last finds a class more, and there are at most NODES of them.
        for (int round = 0; round < NODES; round++) {
            int finer = splitClasses();
            if (finer == classes) {
                break;
            }
            classes = finer;
        }
    }

    private int splitClasses() {
        int found = 0;
        for (int node = 0; node < NODES; node++) {
            int nextByZero = classOf[nodeAfter(node, 0)];
            int nextByOne = classOf[nodeAfter(node, 1)];
            signature[node] = (classOf[node] * NODES + nextByZero) * NODES + nextByOne;
            int like = firstNodeLike(node);
            if (like == node) {
                finerClassOf[node] = found;
                found++;
            } else {
                finerClassOf[node] = finerClassOf[like];
            }
        }
        for (int node = 0; node < NODES; node++) {
            classOf[node] = finerClassOf[node];
        }
        return found;
    }

    private int firstNodeLike(int node) {
        for (int earlier = 0; earlier < node; earlier++) {
            if (signature[earlier] == signature[node]) {
                return earlier;
            }
        }
        return node;
    }

    // ---- engines for equal ----

    /** Engine 0: walks through both machines at once. */
    private boolean isEqualByWalk() {
        int found = walkPairs();
        return firstSplitPair(found) == NONE;
    }

    /** Engine 1: merges what must be alike if the machines are (Hopcroft and Karp). */
    private boolean isEqualByMerging() {
        for (int node = 0; node < NODES; node++) {
            leader[node] = node;
        }
        int merged = merge(beginSet[0], SETS + beginSet[1], 0);
        for (int i = 0; i < merged && i < NODES; i++) {
            if (isEndingNode(mergedOne[i]) != isEndingNode(mergedTwo[i])) {
                return false;
            }
            for (int letter = 0; letter < LETTERS; letter++) {
                int one = nodeAfter(mergedOne[i], letter);
                int two = nodeAfter(mergedTwo[i], letter);
                merged = merge(one, two, merged);
            }
        }
        return true;
    }

    private int merge(int one, int two, int merged) {
        int lost = leader[one];
        int kept = leader[two];
        // Each merging leaves a leader less, so there are always fewer of them than NODES.
        if (lost == kept || merged >= NODES) {
            return merged;
        }
        for (int node = 0; node < NODES; node++) {
            if (leader[node] == lost) {
                leader[node] = kept;
            }
        }
        mergedOne[merged] = one;
        mergedTwo[merged] = two;
        return merged + 1;
    }

    /** Engine 2: sorts the sets of both machines into classes and looks at the first two. */
    private boolean isEqualByClasses() {
        sortIntoClasses();
        return classOf[beginSet[0]] == classOf[SETS + beginSet[1]];
    }

    // ---- walking through both machines at once ----

    /**
     * Lists the pairs of sets that words lead to, in the order of the least words that do:
     * the list is worked off from its front and letter 0 goes first, so words come in order.
     */
    private int walkPairs() {
        for (int i = 0; i < PAIRS; i++) {
            pairSeen[i] = false;
        }
        int found = notePair(beginSet[0] * SETS + beginSet[1], 1, 0, 0);
        for (int i = 0; i < found && i < PAIRS; i++) {
            for (int letter = 0; letter < LETTERS; letter++) {
                int next = pairAfter(pairs[i], letter);
                // A word too long for an int wraps around; its number of letters tells that.
                int word = pairWord[i] * 2 + letter;
                found = notePair(next, word, pairLetters[i] + 1, found);
            }
        }
        return found;
    }

    private int notePair(int pair, int word, int letters, int found) {
        if (pairSeen[pair] || found >= PAIRS) {
            return found;
        }
        pairSeen[pair] = true;
        pairs[found] = pair;
        pairWord[found] = word;
        pairLetters[found] = letters;
        return found + 1;
    }

    private int pairAfter(int pair, int letter) {
        int one = onward[stepOf(0, pair / SETS, letter)];
        int two = onward[stepOf(1, pair % SETS, letter)];
        return one * SETS + two;
    }

    private boolean pairAccepts(int m, int pair) {
        int set = m == 0 ? pair / SETS : pair % SETS;
        return isEnding(m, set);
    }

    private int firstSplitPair(int found) {
        for (int i = 0; i < found && i < PAIRS; i++) {
            if (pairAccepts(0, pairs[i]) != pairAccepts(1, pairs[i])) {
                return i;
            }
        }
        return NONE;
    }
}
