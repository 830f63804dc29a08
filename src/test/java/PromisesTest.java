/** Every promise of the document in turn, with ordinary inputs; its edges are in BoundariesTest. */
public final class PromisesTest {
    private static final Script SCRIPT = new Script("PromisesTest");

    private static void newObject() {
        for (int m = 0; m < 2; m++) {
            SCRIPT.run("1 a new object", """
                    accepts M 1 = false
                    accepts M 2047 = false
                    after M 1 = 0
                    live M = 0
                    least M = -2
                    size 0 M = 1
                    endless M = false
                    count M 0 = 0
                    rank M 2047 = 0
                    ends M 31 31          # sets alone: the empty word, and no other
                    accepts M 1 = true
                    rank M 2047 = 1
                    count M 1 = 0
                    live M = 31
                    endless M = false
                    """.replace("M", "" + m));
        }
        SCRIPT.run("1 both alike", """
                equal 0
                equal 1
                equal 2
                covers 0
                covers 1
                difference = -2
                """);
        SCRIPT.run("1 objects are apart", """
                arrow 0 0 0 0
                ends 0 1 1
                new
                arrow 0 0 0 0 = true
                accepts 0 1 = false
                """);
    }

    private static void arrow() {
        SCRIPT.run("2 arrow", """
                arrow 0 0 0 1
                arrow 0 0 0 1 = false    # there already
                arrow 0 0 1 1            # another letter
                arrow 0 1 0 0            # the other way round
                arrow 0 0 0 2            # another state to go to
                arrow 1 0 0 1            # the other machine
                arrow 0 4 1 4
                arrow 0 4 1 4 = false
                ends 0 1 0
                after 0 2 = 6
                after 0 3 = 2
                after 0 4 = 1
                """);
        SCRIPT.run("2 answers follow at once", """
                ends 0 1 2
                size 0 0 = 1
                arrow 0 0 1 1
                size 0 0 = 3
                arrow 0 1 1 1
                arrow 0 1 0 0
                arrow 0 0 0 0
                size 0 0 = 2
                """);
    }

    private static void cut() {
        SCRIPT.run("3 cut", """
                arrows 0 001 002 011 101
                arrow 1 0 0 1
                ends 0 1 2
                cut 0 0 0 1
                cut 0 0 0 1 = false      # gone already
                after 0 2 = 4
                after 0 3 = 2            # by the other letter it is still there
                after 0 6 = 2
                cut 1 0 0 2 = false
                cut 1 0 0 1              # the other machine's had stayed
                arrow 0 0 0 1            # it can come back
                after 0 2 = 6
                """);
        SCRIPT.run("3 one state of many keeps the way", """
                arrows 0 002 102
                ends 0 3 4
                cut 0 0 0 2
                after 0 2 = 4            # state 1 still goes there
                accepts 0 2
                live 0 = 6
                cut 0 1 0 2
                after 0 2 = 0
                live 0 = 0
                """);
    }

    private static void ends() {
        SCRIPT.run("4 ends", """
                arrows 0 011
                ends 0 1 2
                after 0 1 = 1
                accepts 0 1 = false
                accepts 0 3 = true
                after 1 1 = 0            # the other machine has its own
                ends 0 3 1               # sets anew, adds nothing
                after 0 1 = 3
                accepts 0 1 = true
                accepts 0 3 = false
                ends 0 0 0
                after 0 1 = 0
                ends 0 31 31
                after 0 1 = 31
                live 0 = 31
                ends 1 16 16
                after 1 1 = 16
                after 0 1 = 31
                """);
    }

    private static void turn() {
        SCRIPT.run("5 turn", """
                arrows 0 001 112 202
                arrows 1 001
                ends 0 1 4
                ends 1 1 2
                accepts 0 5 = true       # 0 1
                accepts 0 6 = false
                turn 0
                accepts 0 5 = false
                accepts 0 6 = true       # 1 0
                after 0 1 = 4
                cut 0 0 0 1 = false
                arrow 0 1 0 0 = false    # there, turned round
                arrow 0 2 1 1 = false
                arrow 0 2 0 2 = false
                turn 1
                turn 1                   # twice is not at all
                accepts 1 2 = true
                arrow 1 0 0 1 = false
                """);
        SCRIPT.run("5 turn and go on", """
                arrow 0 0 0 1
                turn 0
                arrow 0 1 0 2
                ends 0 2 4
                after 0 2 = 5
                live 0 = 6
                cut 0 1 0 0
                after 0 2 = 4
                turn 0
                after 0 2 = 2
                """);
        SCRIPT.run("5 turn an empty machine", """
                turn 0
                turn 1
                difference = -2
                """);
    }

    private static void accepts() {
        SCRIPT.run("6 accepts", Machines.THIRD_FROM_END + """
                accepts 0 1 = false
                accepts 0 7 = false      # two letters
                accepts 0 12 = true      # 1 0 0
                accepts 0 15 = true
                accepts 0 11 = false     # 0 1 1
                accepts 0 1028 = true    # 0 0 0 0 0 0 0 1 0 0
                accepts 0 1032 = false   # 0 0 0 0 0 0 1 0 0 0
                accepts 0 2047 = true
                accepts 0 2043 = false
                accepts 1 12 = false
                """);
        SCRIPT.run("6 any of several ways will do", """
                arrows 0 001 002 213
                ends 0 17 8
                accepts 0 5 = true
                accepts 0 4 = false
                accepts 0 2 = false
                """);
    }

    private static void after() {
        SCRIPT.run("7 after", Machines.THIRD_FROM_END + """
                after 0 1 = 1
                after 0 2 = 1
                after 0 3 = 3
                after 0 6 = 5            # 1 0
                after 0 5 = 3            # 0 1
                after 0 12 = 9
                after 0 15 = 15
                after 0 2047 = 15
                after 0 1028 = 9
                after 1 1 = 0
                after 1 2047 = 0
                """);
        SCRIPT.run("7 after does not ask where it ends", """
                arrows 1 003 004 112
                ends 1 3 0
                after 1 1 = 3
                after 1 2 = 24
                after 1 3 = 4
                after 1 4 = 0
                """);
    }

    private static void sizeIs(String section, String lines, int m, int due) {
        StringBuilder asked = new StringBuilder(lines);
        for (int engine = 0; engine < 4; engine++) {
            asked.append("size ").append(engine).append(' ').append(m).append(" = ")
                    .append(due).append('\n');
        }
        SCRIPT.run("8 size, " + section, asked.toString());
    }

    private static void size() {
        sizeIs("nothing", "", 0, 1);
        sizeIs("every word", "arrows 0 000 010\nends 0 1 1\n", 0, 1);
        sizeIs("every word, in a roundabout way",
                "arrows 1 001 012 100 113 203 214 304 310 401 412\nends 1 5 31\n", 1, 1);
        sizeIs("the empty word", "ends 0 1 1\n", 0, 2);
        sizeIs("no way to an end", "arrows 0 000 001 110\nends 0 1 4\n", 0, 1);
        sizeIs("every word but the empty one", "arrows 0 001 011 101 111\nends 0 1 2\n", 0, 2);
        sizeIs("the one word 0 0 0 0", "arrows 0 001 102 203 304\nends 0 1 16\n", 0, 6);
        sizeIs("third from the end", Machines.THIRD_FROM_END, 0, 8);
        sizeIs("third from the start", Machines.THIRD_FROM_END + "turn 0\n", 0, 5);
        sizeIs("fourth from the end",
                "arrows 1 000 010 011 102 112 203 213 304 314\nends 1 1 16\n", 1, 16);
        sizeIs("threes", Machines.THREES_AND_FIVES, 0, 3);
        sizeIs("fives", Machines.THREES_AND_FIVES, 1, 5);
        sizeIs("twos or threes of letters 0",
                "arrows 0 001 100 203 304 402 010 111 212 313 414\nends 0 5 5\n", 0, 6);
        sizeIs("the largest", Machines.THIRTY_TWO, 0, 32);
        sizeIs("the largest, as machine 1", Machines.asMachineOne(Machines.THIRTY_TWO), 1, 32);
    }

    private static void agree() {
        for (int engine = 0; engine < 4; engine++) {
            for (int other = 0; other < 4; other++) {
                String line = "agree " + engine + " " + other + " = true\n";
                SCRIPT.run("9 agree", Machines.THREES_AND_FIVES + line);
                SCRIPT.run("9 agree, turned", Machines.THIRD_FROM_END + "turn 0\n" + line);
            }
        }
    }

    private static void equalIs(String section, String lines, boolean due) {
        SCRIPT.run("10 equal, " + section, lines + """
                equal 0 = DUE
                equal 1 = DUE
                equal 2 = DUE
                """.replace("DUE", "" + due));
    }

    private static void equal() {
        equalIs("new", "", true);
        equalIs("the empty word alone", "ends 0 1 1\n", false);
        equalIs("the empty word alone, the other", "ends 1 16 16\n", false);
        equalIs("threes and fives", Machines.THREES_AND_FIVES, false);
        equalIs("other states, same words", """
                arrows 0 000 010
                ends 0 1 1
                arrows 1 203 214 303 313 404 414
                ends 1 4 28
                """, true);
        equalIs("a way that leads nowhere", Machines.THIRD_FROM_END + """
                arrows 1 000 010 011 102 112 203 213 004 414 304
                ends 1 1 8
                """, true);
        equalIs("backwards, the same for a word and its turned one",
                Machines.THREES_AND_FIVES + "cut 1 2 0 3\narrow 1 2 0 0\nturn 1\n", true);
        equalIs("just one long word more", """
                arrows 0 001 102 203 304
                ends 0 1 16
                """, false);
        String largestTwice = Machines.THIRTY_TWO + Machines.asMachineOne(Machines.THIRTY_TWO);
        equalIs("largest, twice", largestTwice, true);
        equalIs("largest, not quite twice", largestTwice + "cut 1 4 1 0\n", false);
        for (LongWords pair : LongWords.values()) {
            equalIs("apart after " + pair.letters + " letters", pair.lines, false);
        }
    }

    private static void covers() {
        SCRIPT.run("11 covers", Machines.THREES_AND_FIVES + """
                covers 0 = false
                covers 1 = false
                ends 0 1 7               # every word
                covers 0 = true
                covers 1 = false
                ends 0 1 0               # none
                covers 0 = false
                covers 1 = true
                """);
        SCRIPT.run("11 covers, alike", """
                covers 0 = true
                covers 1 = true
                ends 0 1 1
                ends 1 8 8
                covers 0 = true
                covers 1 = true
                """);
        SCRIPT.run("11 covers, only the empty word more", """
                ends 1 2 2
                covers 0 = false
                covers 1 = true
                """);
        SCRIPT.run("11 covers goes on after the least difference", """
                arrows 0 001
                ends 0 1 2               # 0
                arrows 1 013
                ends 1 1 8               # 1
                covers 0 = false
                covers 1 = false
                """);
        SCRIPT.run("11 covers, only after 893 pairs of sets have been seen", """
                arrows 0 002 012 110 204 214 300 311 402 403 413
                ends 0 31 31
                arrows 1 001 013 102 111 203 214 300 304 312 400 410
                ends 1 4 16
                covers 0 = false
                covers 1 = false
                """);
    }

    private static void count() {
        SCRIPT.run("12 count", Machines.THIRD_FROM_END + """
                count 0 0 = 0
                count 0 1 = 0
                count 0 2 = 0
                count 0 3 = 4
                count 0 4 = 8
                count 0 12 = 2048
                count 1 3 = 0
                ends 0 1 15
                count 0 0 = 1
                count 0 1 = 2
                count 0 12 = 4096
                """);
        SCRIPT.run("12 a word counts once, however many its ways are",
                Machines.allArrows("arrow 1", "true") + """
                ends 1 31 31
                count 1 0 = 1
                count 1 5 = 32
                count 1 12 = 4096
                """);
        SCRIPT.run("12 count, threes", Machines.THREES_AND_FIVES + """
                count 0 2 = 1            # 1 1
                count 0 3 = 2            # 0 0 0 and 1 1 1
                count 0 4 = 5            # 1 1 1 1, and 0 0 0 with a 1 in one of four places
                """);
    }

    private static void least() {
        SCRIPT.run("13 least", Machines.THIRD_FROM_END + """
                least 0 = 12
                least 1 = -2
                ends 0 1 9
                least 0 = 1              # the empty word
                """);
        SCRIPT.run("13 least, shorter before smaller letters", """
                arrows 0 001 102 013
                ends 0 1 12
                least 0 = 3              # 1, not 0 0
                """);
        SCRIPT.run("13 least of one length", """
                arrows 1 011 104 002 214
                ends 1 1 16
                least 1 = 5              # 0 1, not 1 0
                """);
        SCRIPT.run("13 the longest least word", """
                arrows 0 011 112 213 314
                ends 0 1 16
                least 0 = 31             # 1 1 1 1
                cut 0 3 1 4
                least 0 = -2
                """);
    }

    private static void difference() {
        SCRIPT.run("14 difference", Machines.THREES_AND_FIVES + """
                difference = 8           # 0 0 0
                ends 1 1 0
                difference = 1           # the empty word
                ends 0 1 0
                difference = -2
                ends 0 1 2
                difference = 2
                ends 0 4 2
                difference = 4           # 0 0
                """);
        SCRIPT.run("14 difference, either machine", """
                arrows 1 013 102
                ends 1 3 12
                difference = 2           # 0, by state 1
                cut 1 1 0 2
                difference = 3
                """);
    }

    private static void rank() {
        SCRIPT.run("15 rank", Machines.THIRD_FROM_END + """
                rank 0 1 = 0
                rank 0 12 = 0            # 12 itself is not below 12
                rank 0 13 = 1
                rank 0 16 = 4
                rank 0 20 = 4
                rank 0 21 = 5            # 20 is 0 1 0 0
                rank 0 32 = 12
                rank 0 2047 = 1019
                rank 1 2047 = 0
                """);
        SCRIPT.run("15 rank, every word", """
                arrows 1 000 010
                ends 1 1 1
                rank 1 1 = 0
                rank 1 2 = 1             # the empty word is one of them
                rank 1 1000 = 999
                rank 1 2047 = 2046
                """);
    }

    private static void endless() {
        SCRIPT.run("16 endless", Machines.THIRD_FROM_END + """
                endless 0 = true
                endless 1 = false
                cut 0 0 0 0
                endless 0 = true         # by the other letter
                cut 0 0 1 0
                endless 0 = false        # four words are left
                """);
        SCRIPT.run("16 rounds that no accepted word goes", """
                arrows 0 011 202 304 413
                ends 0 1 2
                endless 0 = false
                """);
        SCRIPT.run("16 a round that is reached and does not come to an end", """
                arrows 1 011 002 202 212
                ends 1 1 2
                endless 1 = false
                """);
        SCRIPT.run("16 a round that comes to an end and is not reached", """
                arrows 1 011 202 211
                ends 1 1 2
                endless 1 = false
                ends 1 5 2
                endless 1 = true
                """);
        SCRIPT.run("16 one long round", """
                arrows 0 001 112 203 314
                ends 0 1 16
                endless 0 = false
                arrow 0 4 0 0
                endless 0 = true
                """);
    }

    private static void live() {
        SCRIPT.run("17 live", Machines.THIRD_FROM_END + """
                live 0 = 15
                live 1 = 0
                ends 0 2 8
                live 0 = 14              # state 0 is not reached
                ends 0 1 2
                live 0 = 3               # states 2 and 3 come to no end
                ends 0 1 16
                live 0 = 0
                """);
        SCRIPT.run("17 the empty word's way", """
                ends 0 21 7
                live 0 = 5
                """);
        SCRIPT.run("17 by the longest ways", """
                arrows 1 401 112 203 310
                ends 1 16 1
                live 1 = 31
                cut 1 2 0 3
                live 1 = 0
                """);
    }

    public static void main(String[] args) {
        newObject();
        arrow();
        cut();
        ends();
        turn();
        accepts();
        after();
        size();
        agree();
        equal();
        covers();
        count();
        least();
        difference();
        rank();
        endless();
        live();
        SCRIPT.end();
    }
}
