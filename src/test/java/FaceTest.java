import java.lang.reflect.Constructor;
import java.lang.reflect.Field;
import java.lang.reflect.Member;
import java.lang.reflect.Method;
import java.lang.reflect.Modifier;
import java.util.Set;
import java.util.TreeSet;

/** The public face: every constant, the constructor and every method, and nothing else to see. */
public final class FaceTest {
    private static final Set<String> DUE = Set.of(
            "public static final int BAD",
            "public static final int NONE",
            "public AutomataSuite()",
            "public boolean arrow(int,int,int,int)",
            "public boolean cut(int,int,int,int)",
            "public boolean ends(int,int,int)",
            "public boolean turn(int)",
            "public boolean accepts(int,int)",
            "public int after(int,int)",
            "public int size(int,int)",
            "public boolean agree(int,int)",
            "public boolean equal(int)",
            "public boolean covers(int)",
            "public int count(int,int)",
            "public int least(int)",
            "public int difference()",
            "public int rank(int,int)",
            "public boolean endless(int)",
            "public int live(int)");

    private static int wrong = 0;

    private static void due(boolean holds, String what) {
        if (!holds) {
            wrong++;
            System.out.println(what);
        }
    }

    private static boolean isSeen(Member member) {
        return !Modifier.isPrivate(member.getModifiers());
    }

    private static Set<String> seenMembers() {
        Set<String> seen = new TreeSet<>();
        for (Field field : AutomataSuite.class.getDeclaredFields()) {
            if (isSeen(field)) {
                seen.add(field.toGenericString().replace("AutomataSuite.", ""));
            }
        }
        for (Constructor<?> constructor : AutomataSuite.class.getDeclaredConstructors()) {
            if (isSeen(constructor)) {
                seen.add(constructor.toGenericString());
            }
        }
        for (Method method : AutomataSuite.class.getDeclaredMethods()) {
            if (isSeen(method)) {
                seen.add(method.toGenericString().replace("AutomataSuite.", ""));
            }
        }
        return seen;
    }

    private static void checkFields() {
        for (Field field : AutomataSuite.class.getDeclaredFields()) {
            Class<?> type = field.getType();
            Class<?> element = type.isArray() ? type.getComponentType() : type;
            due(element.isPrimitive() && element != float.class && element != double.class,
                    field + " has a type that LANGUAGE.md rules out");
            due(!Modifier.isStatic(field.getModifiers())
                    || Modifier.isFinal(field.getModifiers()) && !type.isArray(),
                    field + " is static and not a constant");
        }
    }

    private static void checkMethods() {
        Set<String> publicNames = new TreeSet<>();
        for (Method method : AutomataSuite.class.getMethods()) {
            publicNames.add(method.getName());
        }
        for (Method method : AutomataSuite.class.getDeclaredMethods()) {
            due(isSeen(method) || !publicNames.contains(method.getName()),
                    method + " is private and bears the name of a public one");
            due(method.getParameterCount() <= 7, method + " has more than seven parameters");
        }
    }

    public static void main(String[] args) {
        int modifiers = AutomataSuite.class.getModifiers();
        due(Modifier.isPublic(modifiers) && Modifier.isFinal(modifiers),
                "the class is not public and final");
        due(AutomataSuite.class.getDeclaredClasses().length == 0, "the class has a nested one");
        due(AutomataSuite.BAD == -1, "BAD is not -1");
        due(AutomataSuite.NONE == -2, "NONE is not -2");
        Set<String> seen = seenMembers();
        for (String member : DUE) {
            due(seen.contains(member), "missing: " + member);
        }
        for (String member : seen) {
            due(DUE.contains(member), "not in the document: " + member);
        }
        checkFields();
        checkMethods();
        System.out.println("FaceTest: " + seen.size() + " members seen, " + wrong + " faults");
        if (wrong != 0) {
            System.exit(1);
        }
    }
}
