import static java.util.stream.Collectors.joining;

import java.util.List;
import java.util.stream.IntStream;

/**
 * The boundary cases that the document names, sentence by sentence and in its order. Each has a
 * test of its own, which is told by the words of the document that it holds the program to.
 */
public final class BoundariesTest {
    private static final Script SCRIPT = new Script("BoundariesTest");

    // Beside the range by one, far beside it, and where shifts and products of ints wrap around
    // to something that is in the range.
    private static final String NO_MACHINE = "-1 2 3 67108864 134217728 1073741824 MIN MAX";
    private static final String NO_STATE = "-1 5 6 31 32 36 MIN MAX";
    private static final String NO_LETTER = "-1 2 3 32 MIN MAX";
    private static final String NO_SET = "-1 32 33 63 64 MIN MAX";
    private static final String NO_WORD = "0 -1 2048 2049 4095 4096 MIN MAX";
    private static final String NO_LENGTH = "-1 13 14 31 32 44 MIN MAX";
    private static final String NO_SIZE_ENGINE = "-1 4 5 32 MIN MAX";
    private static final String NO_EQUAL_ENGINE = "-1 3 4 32 MIN MAX";

    private static final String EVERY_ARROW = IntStream.range(0, 50)
            .mapToObj(i -> "" + i / 10 + i / 5 % 2 + i % 5).collect(joining(" "));

    private static final Sample EMPTY = new Sample("", 0, 0);
    private static final Sample FULL = new Sample(EVERY_ARROW, 31, 31);

    // Where a call is refused, the same call on a machine would be answered true, not false:
    // all of these but the first two accept every word.
    private static final List<List<Sample>> BEFORE_REFUSALS = List.of(
            List.of(EMPTY, EMPTY),
            List.of(FULL, FULL),
            List.of(new Sample("000 010 014 112 203 314", 5, 31),
                    new Sample("404 414 101 112 302", 18, 29)));

    private static void holds(String words, String lines) {
        SCRIPT.run(words, lines);
    }

    /** The call, with each of the values in the place of "?", is answered so and changes nothing. */
    private static void refused(String words, String call, String values) {
        for (String value : values.split(" ")) {
            for (List<Sample> before : BEFORE_REFUSALS) {
                Sample zero = before.get(0);
                Sample one = before.get(1);
                holds(words, zero.made(0) + one.made(1) + call.replace("?", value) + "\n"
                        + zero.found(0) + one.found(1));
            }
        }
    }

    // ---- What it is ----

    private static String fiveHundredCalls() {
        return """
                arrow 1 4 1 4
                cut 1 4 1 4
                turn 0
                turn 0
                """.repeat(125);
    }

    private static void atMost512Calls() {
        String words = "What it is, \"used for at most 512 calls\"";
        String before = Machines.THIRD_FROM_END + Machines.everyWord(1) + fiveHundredCalls();
        String lastCalls = """
                arrow 0 3 0 3 = true
                cut 0 2 1 3 = true
                ends 0 31 31 = true
                turn 0 = true
                accepts 0 12 = true
                after 0 12 = 9
                size 0 0 = 8
                size 1 0 = 8
                size 2 0 = 8
                size 3 0 = 8
                agree 1 2 = true
                equal 0 = false
                covers 1 = true
                count 0 12 = 2048
                least 0 = 12
                difference = 1
                rank 0 2047 = 1019
                endless 0 = true
                live 0 = 15
                """;
        for (String last : lastCalls.split("\n")) {
            SCRIPT.run(words + ", the last: " + last, before + last, 512);
        }
        SCRIPT.run(words + ", a change by the last but one",
                "after 1 1 = 0\n" + before.replaceFirst("turn 0\nturn 0\n$", "")
                        + "turn 0\nafter 0 1 = 8\n", 512);
    }

    private static void everyCallOf512IsAnswered() {
        LongWords apart = LongWords.THIRTY_SEVEN;
        int made = 0;
        for (String line : apart.lines.split("\n")) {
            made += line.startsWith("arrows") ? line.split(" ").length - 2 : 1;
        }
        SCRIPT.run("What it is, \"used for at most 512 calls\", long ones", apart.lines
                + "difference = -1\n".repeat(512 - made), 512);
    }

    // ---- Terms ----

    private static void machines() {
        String words = "Terms, \"A MACHINE (0 or 1)\"";
        for (int m = 0; m < 2; m++) {
            holds(words + ", " + m + " is one in every call", """
                    arrow M 0 0 0 = true
                    arrow M 0 1 0 = true
                    arrow M 0 1 1 = true
                    ends M 1 2 = true
                    turn M = true
                    turn M = true
                    cut M 0 0 0 = true
                    accepts M 3 = true
                    after M 3 = 3
                    size 0 M = 3
                    size 1 M = 3
                    size 2 M = 3
                    size 3 M = 3
                    covers M = true
                    count M 12 = 1
                    least M = 3
                    rank M 4 = 1
                    endless M = true
                    live M = 3
                    """.replace("M", "" + m));
        }
        holds(words + ", and they are apart", """
                arrows 0 001
                ends 0 1 2
                arrows 1 412
                ends 1 16 4
                accepts 0 2 = true
                accepts 0 3 = false
                accepts 1 2 = false
                accepts 1 3 = true
                turn 0
                after 0 1 = 2
                after 1 1 = 16
                cut 0 4 1 2 = false
                cut 1 1 0 0 = false
                """);
    }

    private static void states() {
        holds("Terms, \"the STATES 0 .. 4\"", """
                arrow 0 0 0 4 = true
                arrow 0 4 0 0 = true
                arrow 0 0 0 5 = false
                arrow 0 5 0 0 = false
                arrow 0 0 0 -1 = false
                arrow 0 -1 0 0 = false
                ends 0 1 16
                accepts 0 2 = true
                accepts 0 8 = true       # there, back and there again
                """);
    }

    private static void sets() {
        for (int s = 0; s < 5; s++) {
            holds("Terms, \"written with bit s for state s\", state " + s, """
                    arrow 0 S 1 S
                    ends 0 BIT BIT
                    after 0 1 = BIT
                    after 0 3 = BIT
                    accepts 0 3 = true
                    live 0 = BIT
                    """.replace("BIT", "" + (1 << s)).replace("S", "" + s));
        }
    }

    private static void letters() {
        holds("Terms, \"a LETTER (0 or 1)\"", """
                arrow 0 0 0 1 = true
                arrow 0 0 1 2 = true
                arrow 0 0 2 3 = false
                arrow 0 0 -1 3 = false
                ends 0 1 31
                after 0 2 = 2
                after 0 3 = 4
                """);
    }

    private static void words() {
        holds("Terms, \"1 is the empty word\"", """
                arrows 0 001 012
                ends 0 1 1
                after 0 1 = 1
                accepts 0 1 = true
                least 0 = 1
                rank 0 2 = 1
                count 0 0 = 1
                """);
        holds("Terms, \"5 the word 0 1\"", """
                arrows 0 001 112 013 304
                ends 0 1 31
                after 0 5 = 4
                after 0 6 = 16
                """);
        holds("Terms, \"at most ten letters here (1 .. 2047)\"", Machines.everyWord(0) + """
                accepts 0 0 = false
                accepts 0 1 = true
                accepts 0 1023 = true
                accepts 0 1024 = true
                accepts 0 2047 = true
                accepts 0 2048 = false
                after 0 0 = -1
                after 0 1 = 1
                after 0 2047 = 1
                after 0 2048 = -1
                rank 0 0 = -1
                rank 0 1 = 0
                rank 0 2047 = 2046
                rank 0 2048 = -1
                """);
        holds("Terms, \"unless said otherwise\"", Machines.everyWord(0) + """
                count 0 11 = 2048
                count 0 12 = 4096
                """);
        LongWords apart = LongWords.TWENTY_NINE;
        holds("Terms, \"unless said otherwise\", more than ten letters",
                apart.lines + "difference = " + apart.difference + "\n");
    }

    private static void accepting() {
        holds("Terms, \"begin in a state of its first set\"", """
                arrows 0 401
                ends 0 8 2
                accepts 0 2 = false      # state 4 is not in it
                ends 0 24 2
                accepts 0 2 = true
                ends 0 0 2
                accepts 0 2 = false
                """);
        holds("Terms, \"by the letters of the word, one after the other\"", """
                arrows 0 011 102 213 304
                ends 0 1 16
                accepts 0 26 = true      # 1 0 1 0
                accepts 0 21 = false     # 0 1 0 1
                accepts 0 10 = false     # 0 1 0
                accepts 0 13 = false     # 1 0 1 stops before the end
                accepts 0 58 = false     # one letter too many
                """);
        holds("Terms, \"come to a state of its second set\"", """
                arrows 0 001
                ends 0 1 0
                accepts 0 1 = false
                accepts 0 2 = false
                ends 0 1 28
                accepts 0 2 = false
                ends 0 1 30
                accepts 0 2 = true
                """);
    }

    private static void order() {
        holds("Terms, \"shorter ones come first\"", """
                arrows 0 001 102 203 011 112
                ends 0 1 8
                least 0 = 8              # 0 0 0
                arrow 0 0 1 3
                least 0 = 3              # 1: greater letters, and yet less
                difference = 3
                rank 0 8 = 1
                """);
    }

    private static void plain() {
        String every = "Terms, \"from every state there is just one arrow by each letter\"";
        String first = "Terms, \"just one state to begin in\"";
        for (int engine = 0; engine < 4; engine++) {
            holds(every + ", so a state without an end counts, engine " + engine, """
                    arrows 0 000
                    ends 0 1 1
                    size E 0 = 2
                    arrow 0 0 1 0
                    size E 0 = 1
                    """.replace("E", "" + engine));
            holds(first + ", so there is at least one, engine " + engine, """
                    size E 0 = 1
                    ends 0 0 31
                    size E 0 = 1
                    ends 0 31 0
                    size E 0 = 1
                    """.replace("E", "" + engine));
            holds(first + ", so several count as one, engine " + engine, """
                    arrows 0 000 010 101 111
                    ends 0 3 3
                    size E 0 = 1
                    """.replace("E", "" + engine));
        }
    }

    private static void engines() {
        holds("Terms, \"0 .. 3 for size and agree\"", """
                size -1 0 = -1
                size 0 0 = 1
                size 3 0 = 1
                size 4 0 = -1
                agree 0 3 = true
                agree 3 0 = true
                agree -1 0 = false
                agree 0 4 = false
                """);
        holds("Terms, \"0 .. 2 for equal\"", """
                equal -1 = false
                equal 0 = true
                equal 1 = true
                equal 2 = true
                equal 3 = false
                """);
        for (LongWords apart : LongWords.values()) {
            holds("Terms, \"no answer depends on it\", equal", apart.lines + """
                    equal 0 = false
                    equal 1 = false
                    equal 2 = false
                    """);
        }
        holds("Terms, \"no answer depends on it\", size", Machines.THIRTY_TWO
                + Machines.asMachineOne(Machines.THIRD_FROM_END) + """
                size 0 0 = 32
                size 1 0 = 32
                size 2 0 = 32
                size 3 0 = 32
                size 0 1 = 8
                size 1 1 = 8
                size 2 1 = 8
                size 3 1 = 8
                """);
    }

    // ---- Promises 1 to 5: what changes a machine ----

    private static void newObject() {
        for (int m = 0; m < 2; m++) {
            holds("Promise 1, \"Both machines have no arrows\", machine " + m,
                    Machines.allArrows("cut " + m, "false"));
            holds("Promise 1, \"and empty sets\", begin, machine " + m, """
                    after M 1 = 0
                    after M 2047 = 0
                    live M = 0
                    """.replace("M", "" + m));
            holds("Promise 1, \"and empty sets\", end, machine " + m, """
                    turn M
                    after M 1 = 0
                    """.replace("M", "" + m));
            holds("Promise 1, no word is accepted, machine " + m, """
                    accepts M 1 = false
                    accepts M 2047 = false
                    size 0 M = 1
                    covers M = true
                    count M 0 = 0
                    count M 12 = 0
                    least M = -2
                    rank M 2047 = 0
                    endless M = false
                    live M = 0
                    """.replace("M", "" + m));
        }
        holds("Promise 1, another object before it leaves nothing behind",
                Machines.allArrows("arrow 0", "true") + Machines.allArrows("arrow 1", "true")
                        + "ends 0 31 31\nends 1 31 31\nsize 0 0 = 1\ndifference = -2\nnew\n"
                        + EMPTY.found(0) + EMPTY.found(1));
    }

    private static void arrow() {
        for (int m = 0; m < 2; m++) {
            holds("Promise 2, \"Gives machine m an arrow\", every one until it is full",
                    Machines.allArrows("arrow " + m, "true")
                            + new Sample(EVERY_ARROW, 0, 0).found(m)
                            + EMPTY.found(1 - m));
            holds("Promise 2, \"false when it is there already\", every one",
                    Machines.allArrows("arrow " + m, "true")
                            + Machines.allArrows("arrow " + m, "false")
                            + new Sample(EVERY_ARROW, 0, 0).found(m));
            holds("Promise 2, \"false when it is there already\", and it stays", """
                    arrow M 2 1 3 = true
                    arrow M 2 1 3 = false
                    arrow M 2 1 3 = false
                    """.replace("M", "" + m) + new Sample("213", 0, 0).found(m));
            holds("Promise 2, \"false when it is there already\", by turn", """
                    arrow M 2 1 3 = true
                    turn M
                    arrow M 2 1 3 = true
                    arrow M 3 1 2 = false
                    """.replace("M", "" + m) + new Sample("213 312", 0, 0).found(m));
        }
        String words = "Promise 2, \"or something is out of range\"";
        refused(words + ", m", "arrow ? 0 0 0 = false", NO_MACHINE);
        refused(words + ", s", "arrow 0 ? 0 0 = false", NO_STATE);
        refused(words + ", letter", "arrow 0 0 ? 0 = false", NO_LETTER);
        refused(words + ", t", "arrow 0 0 0 ? = false", NO_STATE);
        refused(words + ", s of machine 1", "arrow 1 ? 1 4 = false", NO_STATE);
        refused(words + ", letter of machine 1", "arrow 1 4 ? 4 = false", NO_LETTER);
        refused(words + ", t of machine 1", "arrow 1 4 1 ? = false", NO_STATE);
        refused(words + ", all of it", "arrow ? ? ? ? = false", "-1 5 32 MIN MAX");
    }

    private static void cut() {
        for (int m = 0; m < 2; m++) {
            holds("Promise 3, \"Takes this arrow away\", every one until it is empty",
                    Machines.allArrows("arrow " + m, "true")
                            + Machines.allArrows("cut " + m, "true")
                            + EMPTY.found(m));
            holds("Promise 3, \"Takes this arrow away\", and no other",
                    Machines.allArrows("arrow " + m, "true")
                            + "cut M 4 1 4\ncut M 0 0 0\n".replace("M", "" + m)
                            + new Sample(EVERY_ARROW.replace("000", "").replace("414", ""), 0, 0)
                                    .found(m));
            holds("Promise 3, \"false when it is not there\", never was",
                    Machines.allArrows("arrow " + (1 - m), "true")
                            + Machines.allArrows("cut " + m, "false")
                            + EMPTY.found(m)
                            + new Sample(EVERY_ARROW, 0, 0).found(1 - m));
            holds("Promise 3, \"false when it is not there\", any more", """
                    arrows M 213 214
                    cut M 2 1 3 = true
                    cut M 2 1 3 = false
                    """.replace("M", "" + m) + new Sample("214", 0, 0).found(m));
            holds("Promise 3, \"false when it is not there\", but turned around", """
                    arrows M 213
                    turn M
                    cut M 2 1 3 = false
                    cut M 3 1 2 = true
                    """.replace("M", "" + m) + EMPTY.found(m));
        }
        String words = "Promise 3, \"or something is out of range\"";
        refused(words + ", m", "cut ? 0 0 0 = false", NO_MACHINE);
        refused(words + ", s", "cut 0 ? 0 0 = false", NO_STATE);
        refused(words + ", letter", "cut 0 0 ? 0 = false", NO_LETTER);
        refused(words + ", t", "cut 0 0 0 ? = false", NO_STATE);
        refused(words + ", s of machine 1", "cut 1 ? 1 4 = false", NO_STATE);
        refused(words + ", letter of machine 1", "cut 1 4 ? 4 = false", NO_LETTER);
        refused(words + ", t of machine 1", "cut 1 4 1 ? = false", NO_STATE);
        refused(words + ", all of it", "cut ? ? ? ? = false", "-1 5 32 MIN MAX");
    }

    private static void ends() {
        for (int m = 0; m < 2; m++) {
            for (int begin : new int[] {0, 1, 16, 31}) {
                for (int end : new int[] {0, 1, 16, 31}) {
                    Sample one = new Sample("", begin, end);
                    holds("Promise 4, \"(sets 0 .. 31)\"", one.made(m) + one.found(m)
                            + EMPTY.found(1 - m));
                }
            }
            holds("Promise 4, \"Sets the states\", again, from full to empty", """
                    ends M 31 31 = true
                    ends M 31 31 = true
                    ends M 0 0 = true
                    """.replace("M", "" + m) + EMPTY.found(m));
        }
        String words = "Promise 4, \"false, changing nothing, when something is out of range\"";
        refused(words + ", m", "ends ? 2 4 = false", NO_MACHINE);
        refused(words + ", begin", "ends 0 ? 4 = false", NO_SET);
        refused(words + ", end", "ends 0 2 ? = false", NO_SET);
        refused(words + ", begin of machine 1", "ends 1 ? 4 = false", NO_SET);
        refused(words + ", end of machine 1", "ends 1 2 ? = false", NO_SET);
        refused(words + ", all of it", "ends ? ? ? = false", "-1 32 MIN MAX");
    }

    private static void turn() {
        for (int m = 0; m < 2; m++) {
            String turned = "turn " + m + " = true\n";
            String other = new Sample("013", 7, 9).made(1 - m);
            String otherFound = new Sample("013", 7, 9).found(1 - m);
            holds("Promise 5, \"Turns all arrows of machine m around\", none there",
                    turned + EMPTY.found(m));
            holds("Promise 5, \"Turns all arrows of machine m around\", all there",
                    new Sample(EVERY_ARROW, 3, 5).made(m) + turned
                            + new Sample(EVERY_ARROW, 5, 3).found(m));
            holds("Promise 5, \"Turns all arrows of machine m around\", to the same state",
                    new Sample("000 414", 0, 0).made(m) + turned
                            + new Sample("000 414", 0, 0).found(m));
            holds("Promise 5, \"Turns all arrows of machine m around\", there and back",
                    new Sample("001 100 214", 0, 0).made(m) + turned
                            + new Sample("001 100 412", 0, 0).found(m));
            holds("Promise 5, \"of machine m\", and not those of the other",
                    other + new Sample("014", 1, 16).made(m) + turned
                            + new Sample("410", 16, 1).found(m) + otherFound);
            holds("Promise 5, \"exchanges its two sets\", one empty, one full",
                    new Sample("", 0, 31).made(m) + turned + new Sample("", 31, 0).found(m)
                            + turned + new Sample("", 0, 31).found(m));
        }
        refused("Promise 5, \"false when m is not 0 or 1\"", "turn ? = false", NO_MACHINE);
    }

    // ---- Promises 6 and 7: asking about one word ----

    private static void accepts() {
        holds("Promise 6, \"Whether machine m accepts a word\", the empty one", """
                ends 0 21 10
                accepts 0 1 = false
                ends 0 16 16
                accepts 0 1 = true
                arrow 0 4 0 4
                ends 0 16 0
                accepts 0 1 = false
                """);
        holds("Promise 6, \"Whether machine m accepts a word\", the longest ones", """
                arrows 0 001 100 011 110
                ends 0 1 1
                accepts 0 1023 = false   # nine letters
                accepts 0 1024 = true    # ten
                accepts 0 2047 = true
                ends 0 1 2
                accepts 0 512 = true
                accepts 0 1024 = false
                accepts 0 2047 = false
                """);
        String words = "Promise 6, \"false when m or the word is out of range\"";
        refused(words + ", m", "accepts ? 1 = false", NO_MACHINE);
        refused(words + ", the word", "accepts 0 ? = false", NO_WORD);
        refused(words + ", the word of machine 1", "accepts 1 ? = false", NO_WORD);
        refused(words + ", both", "accepts ? ? = false", "-1 2048 MIN MAX");
    }

    private static void after() {
        holds("Promise 7, \"The states that one can be in\", none", """
                arrows 0 001
                ends 0 1 31
                after 0 3 = 0
                after 0 4 = 0
                after 0 2047 = 0
                """);
        holds("Promise 7, \"The states that one can be in\", all",
                new Sample(EVERY_ARROW, 16, 0).made(0) + """
                after 0 1 = 16
                after 0 2 = 31
                after 0 1024 = 31
                after 0 2047 = 31
                """);
        holds("Promise 7, \"after a word\", the empty one", """
                arrows 0 001 011
                ends 0 0 31
                after 0 1 = 0
                ends 0 31 0
                after 0 1 = 31
                """);
        holds("Promise 7, \"after a word\", the longest ones", """
                arrows 0 001 102 203 304 400 010 111 212 313 414
                ends 0 1 0
                after 0 1024 = 1         # ten letters 0 go round twice
                after 0 1025 = 16
                after 0 2046 = 2
                after 0 2047 = 1
                """);
        String words = "Promise 7, \"BAD when m or the word is out of range\"";
        refused(words + ", m", "after ? 1 = -1", NO_MACHINE);
        refused(words + ", the word", "after 0 ? = -1", NO_WORD);
        refused(words + ", the word of machine 1", "after 1 ? = -1", NO_WORD);
        refused(words + ", both", "after ? ? = -1", "-1 2048 MIN MAX");
    }

    // ---- Promises 8 to 11: engines, and both machines ----

    private static void size() {
        for (int engine = 0; engine < 4; engine++) {
            String asked = "size " + engine + " ";
            holds("Promise 8, \"The least number of states\", one for no word, engine " + engine,
                    asked + "0 = 1\n" + asked + "1 = 1\n");
            holds("Promise 8, \"The least number of states\", one for every word, engine " + engine,
                    FULL.made(1) + asked + "1 = 1\n");
            holds("Promise 8, \"The least number of states\", two for the empty word, engine "
                    + engine, "ends 1 8 8\n" + asked + "1 = 2\n");
            holds("Promise 8, \"(not only 0 .. 4)\", one more than five, engine " + engine,
                    "arrows 0 011 112 213 314\nends 0 1 16\n" + asked + "0 = 6\n");
            holds("Promise 8, \"(not only 0 .. 4)\", the most there are, engine " + engine,
                    Machines.THIRTY_TWO + asked + "0 = 32\n"
                            + Machines.asMachineOne(Machines.THIRTY_TWO) + asked + "1 = 32\n");
        }
        String words = "Promise 8, \"BAD when m or engine is out of range\"";
        refused(words + ", m", "size 0 ? = -1", NO_MACHINE);
        refused(words + ", m with the last engine", "size 3 ? = -1", NO_MACHINE);
        refused(words + ", engine", "size ? 0 = -1", NO_SIZE_ENGINE);
        refused(words + ", engine, machine 1", "size ? 1 = -1", NO_SIZE_ENGINE);
        refused(words + ", both", "size ? ? = -1", "-1 4 MIN MAX");
    }

    private static void agree() {
        String both = Machines.THIRTY_TWO + Machines.asMachineOne(Machines.THIRD_FROM_END);
        for (int engine = 0; engine < 4; engine++) {
            for (int other = 0; other < 4; other++) {
                String asked = "agree " + engine + " " + other + " = true\n";
                holds("Promise 9, \"find the same size for both machines\", smallest", asked);
                holds("Promise 9, \"find the same size for both machines\", largest", both + asked);
            }
        }
        String words = "Promise 9, \"false when one is none\"";
        refused(words + ", the first", "agree ? 0 = false", NO_SIZE_ENGINE);
        refused(words + ", the first, with the last there is", "agree ? 3 = false", NO_SIZE_ENGINE);
        refused(words + ", the second", "agree 0 ? = false", NO_SIZE_ENGINE);
        refused(words + ", the second, with the last there is", "agree 3 ? = false", NO_SIZE_ENGINE);
        refused(words + ", both alike", "agree ? ? = false", NO_SIZE_ENGINE);
    }

    private static void equal() {
        for (int engine = 0; engine < 3; engine++) {
            String asked = "equal " + engine + " = ";
            String words = ", engine " + engine;
            holds("Promise 10, \"accept the same words\", both none" + words, """
                    arrows 0 000
                    ends 0 1 2
                    arrows 1 313
                    ends 1 4 8
                    """ + asked + "true\n");
            holds("Promise 10, \"accept the same words\", both every one" + words,
                    Machines.everyWord(0) + FULL.made(1) + asked + "true\n");
            holds("Promise 10, \"accept the same words\", none and the empty one" + words,
                    "ends 1 4 4\n" + asked + "false\n");
            holds("Promise 10, \"accept the same words\", every one and all but the empty one" + words,
                    Machines.everyWord(0) + "arrows 1 001 011 101 111\nends 1 1 2\n"
                            + asked + "false\n");
            holds("Promise 10, \"accept the same words\", apart only by the longest of few" + words,
                    Machines.UP_TO_FOUR_LETTERS + Machines.asMachineOne(Machines.UP_TO_FOUR_LETTERS)
                            + asked + "true\ncut 1 3 1 4\n" + asked + "false\n");
            holds("Promise 10, \"accept the same words\", the largest" + words,
                    Machines.THIRTY_TWO + Machines.asMachineOne(Machines.THIRTY_TWO)
                            + asked + "true\n");
        }
        refused("Promise 10, \"false when there is no such engine\"",
                "equal ? = false", NO_EQUAL_ENGINE);
    }

    private static void covers() {
        String words = "Promise 11, \"accepts every word that the other one accepts\"";
        for (int m = 0; m < 2; m++) {
            String asked = "covers M = true\ncovers N = false\n".replace("M", "" + m)
                    .replace("N", "" + (1 - m));
            holds(words + ", which is none", "ends " + m + " 1 1\n" + asked);
            holds(words + ", which is every one but the empty one", Machines.everyWord(m)
                    + "arrows N 001 011 101 111\nends N 1 2\n".replace("N", "" + (1 - m)) + asked);
        }
        holds(words + ", none by either", "covers 0 = true\ncovers 1 = true\n");
        holds(words + ", every one by both", FULL.made(0)
                + Machines.everyWord(1) + "covers 0 = true\ncovers 1 = true\n");
        holds(words + ", each has one that the other has not", """
                arrows 0 001
                ends 0 1 2
                arrows 1 011
                ends 1 1 2
                covers 0 = false
                covers 1 = false
                """);
        for (LongWords apart : LongWords.values()) {
            holds(words + ", apart after " + apart.letters + " letters", apart.lines
                    + "covers 0 = " + apart.zeroCovers + "\ncovers 1 = " + apart.oneCovers + "\n");
        }
        refused("Promise 11, \"false when m is not 0 or 1\"", "covers ? = false", NO_MACHINE);
    }

    // ---- Promises 12 to 17: asking about a machine ----

    private static void count() {
        holds("Promise 12, \"n letters (0 .. 12)\", least and most", Machines.everyWord(0) + """
                count 0 -1 = -1
                count 0 0 = 1
                count 0 12 = 4096
                count 0 13 = -1
                """);
        holds("Promise 12, \"How many words of n letters\", none", """
                arrows 0 000 010
                ends 0 1 2
                count 0 0 = 0
                count 0 12 = 0
                """);
        holds("Promise 12, \"How many words of n letters\", of no letters", """
                ends 0 3 6
                count 0 0 = 1
                count 0 1 = 0
                ends 0 3 4
                count 0 0 = 0
                """);
        holds("Promise 12, \"How many words of n letters\", the first and the last of twelve", """
                arrows 0 000 111
                ends 0 3 3
                count 0 11 = 2
                count 0 12 = 2
                ends 0 2 3
                count 0 12 = 1
                ends 0 1 3
                count 0 12 = 1
                """);
        holds("Promise 12, \"How many words of n letters\", with many ways each",
                FULL.made(1) + """
                count 1 0 = 1
                count 1 1 = 2
                count 1 12 = 4096
                """);
        String words = "Promise 12, \"BAD when m or n is out of range\"";
        refused(words + ", m", "count ? 0 = -1", NO_MACHINE);
        refused(words + ", n", "count 0 ? = -1", NO_LENGTH);
        refused(words + ", n, machine 1", "count 1 ? = -1", NO_LENGTH);
        refused(words + ", both", "count ? ? = -1", "-1 13 MIN MAX");
    }

    private static void least() {
        holds("Promise 13, \"The least word\", the empty one",
                Machines.everyWord(0) + "least 0 = 1\n");
        holds("Promise 13, \"(however long)\", the first of the longest", """
                arrows 0 001 011 102 112 203 213 304 314
                ends 0 1 16
                least 0 = 16
                """);
        holds("Promise 13, \"(however long)\", the last of the longest", """
                arrows 1 413 312 211 110
                ends 1 16 1
                least 1 = 31
                """);
        holds("Promise 13, \"NONE when it accepts none\", no state to begin in",
                new Sample(EVERY_ARROW, 0, 31).made(0) + "least 0 = -2\n");
        holds("Promise 13, \"NONE when it accepts none\", no state to end in",
                new Sample(EVERY_ARROW, 31, 0).made(0) + "least 0 = -2\n");
        holds("Promise 13, \"NONE when it accepts none\", no way", """
                arrows 0 001 102 203 413 404
                ends 0 15 16
                least 0 = -2
                """);
        refused("Promise 13, \"BAD when m is not 0 or 1\"", "least ? = -1", NO_MACHINE);
    }

    private static void difference() {
        holds("Promise 14, \"that just one of the machines accepts\", the empty one, by machine 0",
                "ends 0 1 1\ndifference = 1\n");
        holds("Promise 14, \"that just one of the machines accepts\", the empty one, by machine 1",
                "ends 1 1 1\ndifference = 1\n");
        holds("Promise 14, \"that just one of the machines accepts\", not both", """
                arrows 0 001 011
                ends 0 1 2               # 0 and 1
                arrows 1 001 012
                ends 1 1 2               # 0
                difference = 3
                """);
        holds("Promise 14, \"The least word\", of those of one length", """
                arrows 0 001 112 013 302
                ends 0 1 4               # 0 1 and 1 0
                difference = 5
                """);
        holds("Promise 14, \"The least word\", of those that either accepts", """
                arrows 0 001 102
                ends 0 1 4               # 0 0
                arrows 1 011
                ends 1 1 2               # 1
                difference = 3
                """);
        holds("Promise 14, \"NONE when they accept the same\", none", "difference = -2\n");
        holds("Promise 14, \"NONE when they accept the same\", every one", Machines.everyWord(0)
                + FULL.made(1) + "difference = -2\n");
        holds("Promise 14, \"NONE when they accept the same\", the largest", Machines.THIRTY_TWO
                + Machines.asMachineOne(Machines.THIRTY_TWO) + "difference = -2\n");
        for (LongWords apart : LongWords.values()) {
            String words = apart.letters <= 29 ? "(however long)"
                    : "BAD when it has more than 29 letters";
            holds("Promise 14, \"" + words + "\", it has " + apart.letters,
                    apart.lines + "difference = " + apart.difference + "\n");
        }
    }

    private static void rank() {
        holds("Promise 15, \"with a number less than that of a word\", the least word",
                FULL.made(0) + "rank 0 1 = 0\nrank 0 2 = 1\n");
        holds("Promise 15, \"with a number less than that of a word\", the greatest word",
                Machines.everyWord(1) + "rank 1 2046 = 2045\nrank 1 2047 = 2046\n");
        holds("Promise 15, \"with a number less than that of a word\", and not its own", """
                arrows 0 001
                ends 0 1 2
                rank 0 2 = 0
                rank 0 3 = 1
                """);
        holds("Promise 15, \"with a number less than that of a word\", where the length grows", """
                arrows 0 001 011 102 112
                ends 0 1 4               # 4 to 7
                rank 0 4 = 0
                rank 0 5 = 1
                rank 0 7 = 3
                rank 0 8 = 4
                rank 0 2047 = 4
                """);
        holds("Promise 15, \"with a number less than that of a word\", the first of ten letters",
                Machines.everyWord(0) + "rank 0 1023 = 1022\nrank 0 1024 = 1023\n");
        holds("Promise 15, \"How many\", none", "rank 0 1 = 0\nrank 0 2047 = 0\n");
        String words = "Promise 15, \"BAD when m or the word is out of range\"";
        refused(words + ", m", "rank ? 1 = -1", NO_MACHINE);
        refused(words + ", the word", "rank 0 ? = -1", NO_WORD);
        refused(words + ", the word of machine 1", "rank 1 ? = -1", NO_WORD);
        refused(words + ", both", "rank ? ? = -1", "-1 2048 MIN MAX");
    }

    private static void endless() {
        String words = "Promise 16, \"words without end, that is, more than any number\"";
        holds(words + ", none is not", "endless 0 = false\nendless 1 = false\n");
        holds(words + ", every one is", FULL.made(0) + "endless 0 = true\n");
        holds(words + ", the most that have an end are not", Machines.UP_TO_FOUR_LETTERS + """
                endless 0 = false
                count 0 4 = 16
                count 0 5 = 0
                """);
        holds(words + ", one of each length is", """
                arrows 1 414
                ends 1 16 16
                endless 1 = true
                """);
        holds(words + ", one of each five lengths is", """
                arrows 0 001 102 213 304
                ends 0 1 1
                endless 0 = false
                arrow 0 4 1 0
                endless 0 = true
                """);
        holds(words + ", a round without a way from the beginning is not", """
                arrows 0 000 001 112
                ends 0 2 4
                endless 0 = false
                ends 0 3 4
                endless 0 = true
                """);
        holds(words + ", a round without a way to the end is not", """
                arrows 0 001 112 202
                ends 0 1 2
                endless 0 = false
                ends 0 1 4
                endless 0 = true
                """);
        refused("Promise 16, \"false when m is not 0 or 1\"", "endless ? = false", NO_MACHINE);
    }

    private static void live() {
        String words = "Promise 17, \"on some way by which it accepts a word\"";
        holds(words + ", none", new Sample(EVERY_ARROW, 31, 0).made(0)
                + new Sample(EVERY_ARROW, 0, 31).made(1) + "live 0 = 0\nlive 1 = 0\n");
        holds(words + ", all", new Sample(EVERY_ARROW, 16, 1).made(0) + "live 0 = 31\n");
        holds(words + ", that has no letters", "ends 0 25 19\nlive 0 = 17\n");
        holds(words + ", that has the most states", """
                arrows 1 011 102 213 304
                ends 1 1 16
                live 1 = 31
                """);
        holds(words + ", and not only reached", "arrows 0 001 002\nends 0 1 2\nlive 0 = 3\n");
        holds(words + ", and not only coming to an end",
                "arrows 0 001 201\nends 0 1 2\nlive 0 = 3\n");
        refused("Promise 17, \"BAD when m is not 0 or 1\"", "live ? = -1", NO_MACHINE);
    }

    public static void main(String[] args) {
        atMost512Calls();
        everyCallOf512IsAnswered();
        machines();
        states();
        sets();
        letters();
        words();
        accepting();
        order();
        plain();
        engines();
        newObject();
        arrow();
        cut();
        ends();
        turn();
        accepts();
        after();
        size();
        agree();
        equal();
        covers();
        count();
        least();
        difference();
        rank();
        endless();
        live();
        SCRIPT.end();
    }
}
