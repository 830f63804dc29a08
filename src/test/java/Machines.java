/** Machines that several tests use, as lines for a Script. */
final class Machines {
    // The word's third letter from the end is a 1: four states, eight in a plain machine.
    static final String THIRD_FROM_END = """
            arrows 0 000 010 011 102 112 203 213
            ends 0 1 8
            """;

    // The number of letters 0 can be divided by three; and by five. Both machines are plain.
    static final String THREES_AND_FIVES = """
            arrows 0 001 102 200 010 111 212
            ends 0 1 1
            arrows 1 001 102 203 304 400 010 111 212 313 414
            ends 1 1 1
            """;

    // No plain machine for five states can be larger (Meyer and Fischer).
    static final String THIRTY_TWO = """
            arrows 0 001 102 203 304 400
            arrows 0 111 110 212 210 313 310 414 410
            ends 0 1 1
            """;

    // Every word of up to four letters, and no other.
    static final String UP_TO_FOUR_LETTERS = """
            arrows 0 001 011 102 112 203 213 304 314
            ends 0 1 31
            """;

    private Machines() {
    }

    /** The same machine as machine 1, from lines that make it machine 0. */
    static String asMachineOne(String lines) {
        return lines.replace("arrows 0 ", "arrows 1 ").replace("ends 0 ", "ends 1 ");
    }

    static String everyWord(int m) {
        return "arrows " + m + " 000 010\nends " + m + " 1 1\n";
    }

    /** A line for every arrow that a machine can have. */
    static String allArrows(String call, String due) {
        StringBuilder lines = new StringBuilder();
        for (int s = 0; s < 5; s++) {
            for (int letter = 0; letter < 2; letter++) {
                for (int t = 0; t < 5; t++) {
                    lines.append(call).append(' ').append(s).append(' ').append(letter)
                            .append(' ').append(t).append(" = ").append(due).append('\n');
                }
            }
        }
        return lines.toString();
    }
}
