/** A machine from which lines for a Script are made: some that make it, some that find it again. */
record Sample(String arrows, int begin, int end) {
    String made(int m) {
        String lines = arrows.isEmpty() ? "" : "arrows " + m + " " + arrows + "\n";
        return lines + "ends " + m + " " + begin + " " + end + "\n";
    }

    /** Lines that read both sets and all arrows, and leave the machine as it was. */
    String found(int m) {
        StringBuilder lines = new StringBuilder("""
                after M 1 = BEGIN
                turn M
                after M 1 = END
                turn M
                """);
        for (int s = 0; s < 5; s++) {
            lines.append("ends M ").append(1 << s).append(" 0\n");
            for (int letter = 0; letter < 2; letter++) {
                lines.append("after M ").append(2 + letter).append(" = ")
                        .append(arrowsFrom(s, letter)).append('\n');
            }
        }
        lines.append("ends M BEGIN END\n");
        return lines.toString().replace("M", "" + m).replace("BEGIN", "" + begin)
                .replace("END", "" + end);
    }

    private int arrowsFrom(int s, int letter) {
        int set = 0;
        for (int t = 0; t < 5; t++) {
            set |= arrows.contains("" + s + letter + t) ? 1 << t : 0;
        }
        return set;
    }
}
