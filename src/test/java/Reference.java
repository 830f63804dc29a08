import java.util.ArrayDeque;
import java.util.ArrayList;
import java.util.HashMap;
import java.util.HashSet;
import java.util.LinkedHashMap;
import java.util.List;
import java.util.Map;
import java.util.Set;
import java.util.TreeSet;

/** The document's promises again, written in another way: with words as texts and Java's sets. */
final class Reference {
    private static final int STATES = 5;

    private final List<Set<List<Integer>>> arrows = List.of(new HashSet<>(), new HashSet<>());
    private final List<Set<Integer>> begin = new ArrayList<>(List.of(Set.of(), Set.of()));
    private final List<Set<Integer>> end = new ArrayList<>(List.of(Set.of(), Set.of()));

    // ---- what a call is about ----

    private static boolean isMachine(int m) {
        return m == 0 || m == 1;
    }

    private static boolean isWord(int word) {
        return 1 <= word && word <= 2047;
    }

    private static boolean isArrow(int m, int s, int letter, int t) {
        return isMachine(m) && 0 <= s && s <= 4 && 0 <= letter && letter <= 1 && 0 <= t && t <= 4;
    }

    private static String lettersOf(int word) {
        return Integer.toBinaryString(word).substring(1);
    }

    private static int numberOf(String letters) {
        return Integer.parseInt("1" + letters, 2);
    }

    private static Set<Integer> setOf(int bits) {
        Set<Integer> set = new TreeSet<>();
        for (int s = 0; s < STATES; s++) {
            if ((bits & 1 << s) != 0) {
                set.add(s);
            }
        }
        return set;
    }

    private static int bitsOf(Set<Integer> set) {
        int bits = 0;
        for (int s : set) {
            bits += 1 << s;
        }
        return bits;
    }

    // ---- the calls ----

    boolean arrow(int m, int s, int letter, int t) {
        return isArrow(m, s, letter, t) && arrows.get(m).add(List.of(s, letter, t));
    }

    boolean cut(int m, int s, int letter, int t) {
        return isArrow(m, s, letter, t) && arrows.get(m).remove(List.of(s, letter, t));
    }

    boolean ends(int m, int beginBits, int endBits) {
        if (!isMachine(m) || beginBits < 0 || beginBits > 31 || endBits < 0 || endBits > 31) {
            return false;
        }
        begin.set(m, setOf(beginBits));
        end.set(m, setOf(endBits));
        return true;
    }

    boolean turn(int m) {
        if (!isMachine(m)) {
            return false;
        }
        List<List<Integer>> old = new ArrayList<>(arrows.get(m));
        arrows.get(m).clear();
        for (List<Integer> a : old) {
            arrows.get(m).add(List.of(a.get(2), a.get(1), a.get(0)));
        }
        Set<Integer> oldBegin = begin.get(m);
        begin.set(m, end.get(m));
        end.set(m, oldBegin);
        return true;
    }

    boolean accepts(int m, int word) {
        return isMachine(m) && isWord(word) && acceptsLetters(m, lettersOf(word));
    }

    int after(int m, int word) {
        if (!isMachine(m) || !isWord(word)) {
            return -1;
        }
        Set<Integer> set = begin.get(m);
        for (char letter : lettersOf(word).toCharArray()) {
            set = next(m, set, letter - '0');
        }
        return bitsOf(set);
    }

    int size(int engine, int m) {
        if (!isMachine(m) || engine < 0 || engine > 3) {
            return -1;
        }
        Set<Set<Integer>> sets = wordsTo(m).keySet();
        Map<Set<Integer>, Integer> classes = new HashMap<>();
        for (Set<Integer> set : sets) {
            classes.put(set, 0);
        }
        int known = 0;
        while (true) {
            Map<List<Object>, Integer> finer = new HashMap<>();
            Map<Set<Integer>, Integer> split = new HashMap<>();
            for (Set<Integer> set : sets) {
                List<Object> kind = List.of(classes.get(set), isEnding(m, set),
                        classes.get(next(m, set, 0)), classes.get(next(m, set, 1)));
                finer.putIfAbsent(kind, finer.size());
                split.put(set, finer.get(kind));
            }
            if (finer.size() == known) {
                return known;
            }
            known = finer.size();
            classes = split;
        }
    }

    boolean agree(int engine, int other) {
        return 0 <= engine && engine <= 3 && 0 <= other && other <= 3;
    }

    boolean equal(int engine) {
        return 0 <= engine && engine <= 2 && firstSplit(true, true) == null;
    }

    boolean covers(int m) {
        return isMachine(m) && firstSplit(m == 1, m == 0) == null;
    }

    int count(int m, int n) {
        if (!isMachine(m) || n < 0 || n > 12) {
            return -1;
        }
        return acceptedFrom(m, (int) Math.pow(2, n), (int) Math.pow(2, n + 1));
    }

    int least(int m) {
        if (!isMachine(m)) {
            return -1;
        }
        for (Map.Entry<Set<Integer>, String> entry : wordsTo(m).entrySet()) {
            if (isEnding(m, entry.getKey())) {
                return numberOf(entry.getValue());
            }
        }
        return -2;
    }

    int difference() {
        String letters = firstSplit(true, true);
        if (letters == null) {
            return -2;
        }
        return letters.length() > 29 ? -1 : numberOf(letters);
    }

    int rank(int m, int word) {
        return isMachine(m) && isWord(word) ? acceptedFrom(m, 1, word) : -1;
    }

    /** A machine of five states accepts words without end when it accepts one of 5 to 9 letters. */
    boolean endless(int m) {
        return isMachine(m) && acceptedFrom(m, 1 << 5, 1 << 10) > 0;
    }

    int live(int m) {
        if (!isMachine(m)) {
            return -1;
        }
        boolean[][] way = ways(m);
        int alive = 0;
        for (int s = 0; s < STATES; s++) {
            boolean begun = false;
            boolean ended = false;
            for (int t = 0; t < STATES; t++) {
                begun |= begin.get(m).contains(t) && way[t][s];
                ended |= end.get(m).contains(t) && way[s][t];
            }
            alive += begun && ended ? 1 << s : 0;
        }
        return alive;
    }

    // ---- what they are made of ----

    private Set<Integer> next(int m, Set<Integer> set, int letter) {
        Set<Integer> reached = new TreeSet<>();
        for (List<Integer> a : arrows.get(m)) {
            if (a.get(1) == letter && set.contains(a.get(0))) {
                reached.add(a.get(2));
            }
        }
        return reached;
    }

    private boolean isEnding(int m, Set<Integer> set) {
        for (int s : set) {
            if (end.get(m).contains(s)) {
                return true;
            }
        }
        return false;
    }

    /** From the last letter to the first: which states can still come to an end. */
    private boolean acceptsLetters(int m, String letters) {
        boolean[] good = new boolean[STATES];
        for (int s : end.get(m)) {
            good[s] = true;
        }
        for (int i = letters.length() - 1; i >= 0; i--) {
            boolean[] before = new boolean[STATES];
            for (List<Integer> a : arrows.get(m)) {
                before[a.get(0)] |= a.get(1) == letters.charAt(i) - '0' && good[a.get(2)];
            }
            good = before;
        }
        for (int s : begin.get(m)) {
            if (good[s]) {
                return true;
            }
        }
        return false;
    }

    private int acceptedFrom(int m, int from, int to) {
        int accepted = 0;
        for (int word = from; word < to; word++) {
            accepted += acceptsLetters(m, lettersOf(word)) ? 1 : 0;
        }
        return accepted;
    }

    /** Every set that a word leads to, with the first such word, in the order of these words. */
    private Map<Set<Integer>, String> wordsTo(int m) {
        Map<Set<Integer>, String> words = new LinkedHashMap<>();
        ArrayDeque<Set<Integer>> open = new ArrayDeque<>();
        words.put(begin.get(m), "");
        open.add(begin.get(m));
        while (!open.isEmpty()) {
            Set<Integer> set = open.remove();
            for (int letter = 0; letter <= 1; letter++) {
                Set<Integer> reached = next(m, set, letter);
                if (words.putIfAbsent(reached, words.get(set) + letter) == null) {
                    open.add(reached);
                }
            }
        }
        return words;
    }

    /** The first word that one machine accepts and the other doesn't; each way only if asked. */
    String firstSplit(boolean zeroAlone, boolean oneAlone) {
        Map<List<Set<Integer>>, String> words = new HashMap<>();
        ArrayDeque<List<Set<Integer>>> open = new ArrayDeque<>();
        List<Set<Integer>> first = List.of(begin.get(0), begin.get(1));
        words.put(first, "");
        open.add(first);
        while (!open.isEmpty()) {
            List<Set<Integer>> pair = open.remove();
            boolean zero = isEnding(0, pair.get(0));
            boolean one = isEnding(1, pair.get(1));
            if (zeroAlone && zero && !one || oneAlone && one && !zero) {
                return words.get(pair);
            }
            for (int letter = 0; letter <= 1; letter++) {
                List<Set<Integer>> reached =
                        List.of(next(0, pair.get(0), letter), next(1, pair.get(1), letter));
                if (words.putIfAbsent(reached, words.get(pair) + letter) == null) {
                    open.add(reached);
                }
            }
        }
        return null;
    }

    private boolean[][] ways(int m) {
        boolean[][] way = new boolean[STATES][STATES];
        for (int s = 0; s < STATES; s++) {
            way[s][s] = true;
        }
        for (List<Integer> a : arrows.get(m)) {
            way[a.get(0)][a.get(2)] = true;
        }
        for (int k = 0; k < STATES; k++) {
            for (int s = 0; s < STATES; s++) {
                for (int t = 0; t < STATES; t++) {
                    way[s][t] |= way[s][k] && way[k][t];
                }
            }
        }
        return way;
    }
}
