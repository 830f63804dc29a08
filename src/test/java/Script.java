import java.lang.reflect.Method;

/**
 * Runs calls that are written as text, one a line, and counts the wrong answers:
 * "new" makes a new object, "size 0 1 = 5" calls size(0, 1), for which 5 is due.
 * A line without "=" has to answer true. "arrows 0 011 102" stands for the lines "arrow 0 0 1 1"
 * and "arrow 0 1 0 2". What follows a "#" is not read.
 */
final class Script {
    private static final int MOST_CALLS = 512;

    private final String name;
    private AutomataSuite object = new AutomataSuite();
    private int callsOnObject = 0;
    private int calls = 0;
    private int wrong = 0;

    Script(String name) {
        this.name = name;
    }

    /** Runs the lines on a new object. */
    void run(String section, String lines) {
        renew();
        for (String line : lines.split("\n")) {
            String text = line.replaceAll("#.*", "").trim();
            if (text.equals("new")) {
                renew();
            } else if (text.startsWith("arrows ")) {
                runArrows(section, text.split(" +"));
            } else if (!text.isEmpty()) {
                runLine(section, text);
            }
        }
    }

    /** Runs the lines, which have to be so many calls, on a new object. */
    void run(String section, String lines, int callsDue) {
        run(section, lines);
        if (callsOnObject != callsDue) {
            fault(section + ": made " + callsOnObject + " calls, not " + callsDue);
        }
    }

    private void renew() {
        object = new AutomataSuite();
        callsOnObject = 0;
    }

    private void fault(String what) {
        wrong++;
        System.out.println(what);
    }

    private void runArrows(String section, String[] words) {
        for (int i = 2; i < words.length; i++) {
            String digits = String.join(" ", words[i].split(""));
            runLine(section, "arrow " + words[1] + " " + digits);
        }
    }

    private void runLine(String section, String text) {
        String[] sides = text.split("=");
        String due = sides.length > 1 ? sides[1].trim() : "true";
        String got = answer(sides[0].trim().split(" +"));
        calls++;
        callsOnObject++;
        if (!got.equals(due)) {
            fault(section + ": " + text + ": answered " + got + ", due is " + due);
        }
        // Beyond them the document promises nothing, so a test there would ask too much.
        if (callsOnObject > MOST_CALLS) {
            fault(section + ": " + text + ": more than " + MOST_CALLS + " calls on an object");
        }
    }

    private String answer(String[] words) {
        Object[] arguments = new Object[words.length - 1];
        for (int i = 1; i < words.length; i++) {
            arguments[i - 1] = number(words[i]);
        }
        try {
            for (Method method : AutomataSuite.class.getDeclaredMethods()) {
                if (method.getName().equals(words[0])) {
                    return String.valueOf(method.invoke(object, arguments));
                }
            }
            return "no such method";
        } catch (ReflectiveOperationException | IllegalArgumentException e) {
            return "an exception, " + (e.getCause() == null ? e : e.getCause());
        }
    }

    private static int number(String word) {
        switch (word) {
            case "MIN":
                return Integer.MIN_VALUE;
            case "MAX":
                return Integer.MAX_VALUE;
            default:
                return Integer.parseInt(word);
        }
    }

    /** Says how it went, and ends the program with code 1 if an answer was wrong. */
    void end() {
        System.out.println(name + ": " + calls + " calls, " + wrong + " wrong");
        if (wrong != 0 || calls == 0) {
            System.exit(1);
        }
    }
}
