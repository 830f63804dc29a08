import java.io.IOException;
import java.lang.reflect.Method;
import java.lang.reflect.Modifier;
import java.nio.file.Files;
import java.nio.file.Path;
import java.util.ArrayList;
import java.util.List;
import java.util.Set;
import java.util.TreeSet;
import java.util.regex.Matcher;
import java.util.regex.Pattern;

/** What README.md says of the calls: its example, and the row that each call has in its table. */
public final class ReadmeTest {
    private static final Pattern EXAMPLE =
            Pattern.compile("x\\.(\\w+)\\((.*)\\); +// (-?\\w+)(:.*)?");
    private static final Pattern ROW =
            Pattern.compile("\\| `(\\w+)\\((.*)\\)` \\| .* \\| *(\\w*) *\\|");

    private final Script script = new Script("ReadmeTest");
    private final StringBuilder example = new StringBuilder();
    private final Set<String> calls = new TreeSet<>();
    private final List<String> faults = new ArrayList<>();

    private static String numberOf(String answer) {
        return answer.replace("BAD", "" + AutomataSuite.BAD)
                .replace("NONE", "" + AutomataSuite.NONE);
    }

    private void readExample(String line) {
        Matcher call = EXAMPLE.matcher(line);
        if (call.matches()) {
            example.append(call.group(1)).append(' ').append(call.group(2).replace(",", ""))
                    .append(" = ").append(numberOf(call.group(3))).append('\n');
        } else if (line.startsWith("x.")) {
            faults.add("no answer is told: " + line);
        }
    }

    /** Each argument in turn is put below its range, with the others in theirs, then above it. */
    private void readRow(String line) {
        Matcher row = ROW.matcher(line);
        if (!row.matches()) {
            return;
        }
        String[] names = row.group(2).isEmpty() ? new String[0] : row.group(2).split(", ");
        calls.add(row.group(1) + " with " + names.length + " arguments");
        for (int i = 0; i < names.length; i++) {
            for (int value : new int[] {-1, mostOf(names[i], row.group(1)) + 1}) {
                StringBuilder call = new StringBuilder(row.group(1));
                for (int k = 0; k < names.length; k++) {
                    call.append(' ').append(k == i ? value : names[k].equals("word") ? 1 : 0);
                }
                script.run("README.md, " + names[i] + " out of range",
                        call + " = " + numberOf(row.group(3)));
            }
        }
    }

    private static int mostOf(String name, String call) {
        switch (name) {
            case "s":
            case "t":
                return 4;
            case "begin":
            case "end":
                return 31;
            case "word":
                return 2047;
            case "n":
                return 12;
            case "engine":
            case "other":
                return call.equals("equal") ? 2 : 3;
            default:
                return 1;
        }
    }

    private static Set<String> callsOfTheClass() {
        Set<String> found = new TreeSet<>();
        for (Method method : AutomataSuite.class.getDeclaredMethods()) {
            if (Modifier.isPublic(method.getModifiers())) {
                found.add(method.getName() + " with " + method.getParameterCount() + " arguments");
            }
        }
        return found;
    }

    private void lookForGaps() {
        if (example.length() == 0) {
            faults.add("there is no example");
        }
        if (!calls.equals(callsOfTheClass())) {
            faults.add("the table has other calls than the class: " + calls);
        }
    }

    public static void main(String[] args) throws IOException {
        ReadmeTest test = new ReadmeTest();
        for (String line : Files.readAllLines(Path.of("README.md"))) {
            test.readExample(line);
            test.readRow(line);
        }
        test.script.run("README.md, the example", test.example.toString());
        test.lookForGaps();
        test.faults.forEach(fault -> System.out.println("README.md, " + fault));
        test.script.end();
        if (!test.faults.isEmpty()) {
            System.exit(1);
        }
    }
}
