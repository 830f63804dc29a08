import java.util.ArrayList;
import java.util.Collections;
import java.util.List;
import java.util.Random;

/** Long runs of calls, made up from fixed seeds, each answer held against the Reference. */
public final class ReferenceTest {
    private static final int RUNS = 2500;
    private static final int MOST_CALLS = 512;
    private static final int[] ODD = {-1, -2, Integer.MIN_VALUE, Integer.MAX_VALUE};

    private static int calls = 0;
    private static int wrong = 0;

    private final Random random;
    private final List<String> told = new ArrayList<>();
    private AutomataSuite object = new AutomataSuite();
    private Reference reference = new Reference();
    private int left = MOST_CALLS;

    private ReferenceTest(int seed) {
        random = new Random(seed);
    }

    // ---- arguments: mostly in the range, now and then beside it ----

    private int from(int low, int high) {
        int chance = random.nextInt(40);
        if (chance == 0) {
            return ODD[random.nextInt(ODD.length)];
        }
        if (chance == 1) {
            return random.nextBoolean() ? low - 1 : high + 1;
        }
        return within(low, high);
    }

    private int within(int low, int high) {
        return low + random.nextInt(high - low + 1);
    }

    private int word() {
        int letters = within(0, 10);
        return from(1 << letters, (2 << letters) - 1);
    }

    // ---- one call on both ----

    private void due(String call, Object got, Object want) {
        calls++;
        left--;
        told.add(call + " = " + got);
        if (!got.equals(want)) {
            wrong++;
            System.out.println(call + ": answered " + got + ", due is " + want + ", after");
            System.out.println("  " + String.join("\n  ", told));
        }
    }

    private void arrow(int m, int s, int letter, int t) {
        due("arrow " + m + " " + s + " " + letter + " " + t,
                object.arrow(m, s, letter, t), reference.arrow(m, s, letter, t));
    }

    private void cut(int m, int s, int letter, int t) {
        due("cut " + m + " " + s + " " + letter + " " + t,
                object.cut(m, s, letter, t), reference.cut(m, s, letter, t));
    }

    private void ends(int m, int begin, int end) {
        due("ends " + m + " " + begin + " " + end,
                object.ends(m, begin, end), reference.ends(m, begin, end));
    }

    private void turn(int m) {
        due("turn " + m, object.turn(m), reference.turn(m));
    }

    private void askWord() {
        int m = from(0, 1);
        int word = word();
        due("accepts " + m + " " + word, object.accepts(m, word), reference.accepts(m, word));
        due("after " + m + " " + word, object.after(m, word), reference.after(m, word));
        due("rank " + m + " " + word, object.rank(m, word), reference.rank(m, word));
    }

    private void askMachine() {
        int m = from(0, 1);
        int n = from(0, 12);
        due("count " + m + " " + n, object.count(m, n), reference.count(m, n));
        due("least " + m, object.least(m), reference.least(m));
        due("endless " + m, object.endless(m), reference.endless(m));
        due("live " + m, object.live(m), reference.live(m));
        due("covers " + m, object.covers(m), reference.covers(m));
    }

    private void askEngines() {
        for (int m = 0; m < 2; m++) {
            for (int engine = 0; engine < 4; engine++) {
                due("size " + engine + " " + m,
                        object.size(engine, m), reference.size(engine, m));
            }
        }
        for (int engine = 0; engine < 3; engine++) {
            due("equal " + engine, object.equal(engine), reference.equal(engine));
        }
        int one = from(0, 3);
        int two = from(0, 3);
        int m = from(0, 1);
        due("size " + one + " " + m, object.size(one, m), reference.size(one, m));
        due("equal " + one, object.equal(one), reference.equal(one));
        due("agree " + one + " " + two, object.agree(one, two), reference.agree(one, two));
        due("difference", object.difference(), reference.difference());
    }

    // ---- a run ----

    private void change() {
        int m = from(0, 1);
        switch (random.nextInt(6)) {
            case 0:
                turn(m);
                break;
            case 1:
                ends(m, from(0, 31), from(0, 31));
                break;
            case 2:
            case 3:
                cut(m, from(0, 4), from(0, 1), from(0, 4));
                break;
            default:
                arrow(m, from(0, 4), from(0, 1), from(0, 4));
                break;
        }
    }

    /** Fills one machine, or both with the same one under other names of the states. */
    private void fill(boolean alike) {
        List<Integer> names = new ArrayList<>(List.of(0, 1, 2, 3, 4));
        Collections.shuffle(names, random);
        int arrows = within(1, 24);
        for (int i = 0; i < arrows; i++) {
            int s = within(0, 4);
            int letter = within(0, 1);
            int t = within(0, 4);
            arrow(0, s, letter, t);
            if (alike) {
                arrow(1, names.get(s), letter, names.get(t));
            } else {
                arrow(1, within(0, 4), within(0, 1), within(0, 4));
            }
        }
        int begin = within(0, 31);
        int end = within(0, 31);
        ends(0, begin, end);
        ends(1, alike ? renamed(begin, names) : within(0, 31),
                alike ? renamed(end, names) : within(0, 31));
    }

    private static int renamed(int set, List<Integer> names) {
        int result = 0;
        for (int s = 0; s < 5; s++) {
            result |= (set >> s & 1) << names.get(s);
        }
        return result;
    }

    private void run() {
        if (random.nextInt(10) > 0) {
            fill(random.nextBoolean());
        }
        int rounds = within(1, 8);
        for (int i = 0; i < rounds && left > 60; i++) {
            askEngines();
            askMachine();
            askWord();
            int changes = within(1, 4);
            for (int k = 0; k < changes; k++) {
                change();
            }
        }
        askEngines();
    }

    public static void main(String[] args) {
        for (int seed = 1; seed <= RUNS && wrong == 0; seed++) {
            new ReferenceTest(seed).run();
        }
        System.out.println("ReferenceTest: " + calls + " calls, " + wrong + " wrong");
        if (wrong != 0) {
            System.exit(1);
        }
    }
}
