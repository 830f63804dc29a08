import java.lang.reflect.InvocationTargetException;
import java.lang.reflect.Method;
import java.lang.reflect.Modifier;
import java.util.ArrayList;
import java.util.List;
import java.util.Random;

/**
 * Every call with every choice of arguments at and beside the edges of all ranges, and where ints
 * wrap around, held against the Reference: the answer, and afterwards what the machines are.
 */
public final class EdgesTest {
    private static final int MIN = Integer.MIN_VALUE;
    private static final int MAX = Integer.MAX_VALUE;
    private static final int MOST_CALLS = 512;
    private static final int CALLS_TO_LOOK = 2 * 20;
    private static final int LATER_CALLS = 100_000;

    private static final int[] MANY = {MIN, MIN + 1, -2048, -64, -33, -32, -5, -2, -1, 0, 1, 2, 3,
        4, 5, 6, 10, 11, 12, 13, 14, 30, 31, 32, 33, 63, 64, 1023, 1024, 2046, 2047, 2048, 2049,
        4095, 4096, 1 << 26, 1 << 27, (1 << 27) + 1, 1 << 30, MAX - 1, MAX};
    private static final int[] FEW = {MIN, -1, 0, 1, 2, 4, 5, 31, 32, 1 << 26, MAX};

    private static int calls = 0;
    private static int wrong = 0;

    private final String before;
    private AutomataSuite object;
    private Reference reference;
    private int made;

    private EdgesTest(String before) throws ReflectiveOperationException {
        this.before = before;
        renew();
    }

    private static List<Method> publicMethods() {
        List<Method> methods = new ArrayList<>();
        for (Method method : AutomataSuite.class.getDeclaredMethods()) {
            if (Modifier.isPublic(method.getModifiers())) {
                methods.add(method);
            }
        }
        return methods;
    }

    private static Method publicMethod(String name) {
        for (Method method : publicMethods()) {
            if (method.getName().equals(name)) {
                return method;
            }
        }
        throw new IllegalArgumentException(name);
    }

    private void renew() throws ReflectiveOperationException {
        object = new AutomataSuite();
        reference = new Reference();
        made = 0;
        for (String line : before.split("\n")) {
            String[] words = line.split(" ");
            Object[] arguments = new Object[words.length - 1];
            for (int i = 1; i < words.length; i++) {
                arguments[i - 1] = Integer.valueOf(words[i]);
            }
            call(publicMethod(words[0]), arguments);
        }
    }

    private static Object answer(Object asked, Method method, Object... arguments)
            throws ReflectiveOperationException {
        try {
            return method.invoke(asked, arguments);
        } catch (InvocationTargetException e) {
            return e.getCause();
        }
    }

    private void call(Method method, Object... arguments) throws ReflectiveOperationException {
        Method same = Reference.class.getDeclaredMethod(method.getName(), method.getParameterTypes());
        Object got = answer(object, method, arguments);
        Object due = answer(reference, same, arguments);
        calls++;
        made++;
        if (!got.equals(due)) {
            wrong++;
            System.out.println(method.getName() + " " + List.of(arguments) + ": answered " + got
                    + ", due is " + due + ", call " + made + " after\n" + before);
        }
    }

    /** Reads both sets and every arrow of both machines; the Reference has to know the same. */
    private void look() throws ReflectiveOperationException {
        Method after = publicMethod("after");
        for (int m = 0; m < 2; m++) {
            call(after, m, 1);
            call(publicMethod("turn"), m);
            call(after, m, 1);
            for (int s = 0; s < 5; s++) {
                call(publicMethod("ends"), m, 1 << s, 0);
                call(after, m, 2);
                call(after, m, 3);
            }
        }
    }

    private void callWithAll(Method method) throws ReflectiveOperationException {
        int places = method.getParameterCount();
        int[] values = places > 2 ? FEW : MANY;
        int choices = 1;
        for (int i = 0; i < places; i++) {
            choices *= values.length;
        }
        for (int choice = 0; choice < choices && wrong == 0; choice++) {
            Object[] arguments = new Object[places];
            int rest = choice;
            for (int i = 0; i < places; i++) {
                arguments[i] = values[rest % values.length];
                rest /= values.length;
            }
            call(method, arguments);
            if (made + CALLS_TO_LOOK >= MOST_CALLS || choice == choices - 1) {
                look();
                renew();
            }
        }
    }

    /** What they answer is free, but LANGUAGE.md asks that they end without an exception. */
    private void callAfterTheLast(Random random) throws ReflectiveOperationException {
        List<Method> methods = publicMethods();
        for (int i = 0; i < LATER_CALLS; i++) {
            Method method = methods.get(random.nextInt(methods.size()));
            Object[] arguments = new Object[method.getParameterCount()];
            for (int k = 0; k < arguments.length; k++) {
                arguments[k] = random.nextInt(3) > 0 ? random.nextInt(5)
                        : MANY[random.nextInt(MANY.length)];
            }
            Object got = answer(object, method, arguments);
            calls++;
            if (got instanceof Throwable) {
                wrong++;
                System.out.println(method.getName() + " " + List.of(arguments) + ": " + got);
                return;
            }
        }
    }

    private static String fullMachines() {
        String lines = Machines.allArrows("arrow 0", "true") + Machines.allArrows("arrow 1", "true");
        return lines.replace(" = true", "") + "ends 0 31 31\nends 1 31 31\n";
    }

    public static void main(String[] args) throws ReflectiveOperationException {
        String empty = "ends 0 0 0\n";
        String between = """
                arrow 0 0 0 0
                arrow 0 0 1 4
                arrow 0 4 0 1
                arrow 0 1 1 0
                ends 0 17 3
                arrow 1 4 1 4
                arrow 1 4 0 0
                arrow 1 2 1 2
                arrow 1 0 0 2
                ends 1 20 20
                """;
        for (String before : List.of(empty, between, fullMachines())) {
            EdgesTest test = new EdgesTest(before);
            for (Method method : publicMethods()) {
                test.callWithAll(method);
            }
            test.callAfterTheLast(new Random(1));
        }
        System.out.println("EdgesTest: " + calls + " calls, " + wrong + " wrong");
        if (wrong != 0) {
            System.exit(1);
        }
    }
}
