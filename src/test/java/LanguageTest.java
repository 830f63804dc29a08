import com.sun.source.tree.AssignmentTree;
import com.sun.source.tree.BinaryTree;
import com.sun.source.tree.ClassTree;
import com.sun.source.tree.CompilationUnitTree;
import com.sun.source.tree.DoWhileLoopTree;
import com.sun.source.tree.ForLoopTree;
import com.sun.source.tree.MemberSelectTree;
import com.sun.source.tree.MethodInvocationTree;
import com.sun.source.tree.MethodTree;
import com.sun.source.tree.NewArrayTree;
import com.sun.source.tree.Tree;
import com.sun.source.tree.Tree.Kind;
import com.sun.source.tree.TypeCastTree;
import com.sun.source.tree.VariableTree;
import com.sun.source.tree.WhileLoopTree;
import com.sun.source.util.JavacTask;
import com.sun.source.util.TreePath;
import com.sun.source.util.TreePathScanner;
import com.sun.source.util.Trees;
import java.io.IOException;
import java.nio.file.Path;
import java.util.ArrayList;
import java.util.EnumSet;
import java.util.HashMap;
import java.util.HashSet;
import java.util.List;
import java.util.Map;
import java.util.Set;
import java.util.TreeSet;
import javax.lang.model.element.Modifier;
import javax.tools.JavaCompiler;
import javax.tools.StandardJavaFileManager;
import javax.tools.ToolProvider;

/**
 * The rules of LANGUAGE.md that can be read off the program's text; FaceTest sees some others.
 * Where a rule leaves more than the program needs (while, or an array's length), this doesn't.
 */
public final class LanguageTest extends TreePathScanner<Void, Void> {
    private static final Path PROGRAM = Path.of("src/main/java/AutomataSuite.java");
    private static final int MOST_PARAMETERS = 7;
    private static final int MOST_LINES = 60;
    private static final int DEEPEST_CALL = 6;
    private static final int MOST_FIELDS = 40;

    private static final Set<String> NUMBERS =
            Set.of("int", "long", "short", "byte", "char", "boolean");

    private static final Set<Kind> RULED_OUT = EnumSet.of(
            Kind.PACKAGE, Kind.IMPORT, Kind.NEW_CLASS, Kind.THROW, Kind.TRY, Kind.SYNCHRONIZED,
            Kind.ASSERT, Kind.INSTANCE_OF, Kind.LAMBDA_EXPRESSION, Kind.MEMBER_REFERENCE,
            Kind.STRING_LITERAL, Kind.NULL_LITERAL, Kind.FLOAT_LITERAL, Kind.DOUBLE_LITERAL,
            Kind.ENHANCED_FOR_LOOP, Kind.INTERFACE, Kind.ENUM, Kind.RECORD, Kind.ANNOTATION,
            Kind.ANNOTATION_TYPE);

    private final CompilationUnitTree unit;
    private final Trees trees;
    private final Set<String> constants = new HashSet<>();
    private final Set<String> arrays = new HashSet<>();
    private final Set<String> methods = new HashSet<>();
    private final Map<String, Set<String>> callsOf = new HashMap<>();
    private String method = "";
    private int fields = 0;
    private int faults = 0;

    private LanguageTest(CompilationUnitTree unit, Trees trees) {
        this.unit = unit;
        this.trees = trees;
    }

    private long lineAt(long position) {
        return unit.getLineMap().getLineNumber(position);
    }

    private void due(boolean holds, int rule, String what, Tree tree) {
        if (!holds) {
            faults++;
            long position = trees.getSourcePositions().getStartPosition(unit, tree);
            System.out.println("line " + lineAt(position) + ": rule " + rule + ": " + what);
        }
    }

    // ---- what is there ----

    private void note(ClassTree program) {
        for (Tree member : program.getMembers()) {
            if (member instanceof MethodTree named) {
                due(methods.add("" + named.getName()), 1, "two methods of one name", named);
            } else if (member instanceof VariableTree field) {
                noteField(field);
            } else {
                due(false, 1, "neither a method nor a field", member);
            }
        }
        due(fields <= MOST_FIELDS, 10, fields + " fields", program);
    }

    private void noteField(VariableTree field) {
        Set<Modifier> flags = field.getModifiers().getFlags();
        String type = "" + field.getType();
        if (flags.contains(Modifier.STATIC)) {
            due(flags.contains(Modifier.FINAL) && Set.of("int", "long").contains(type)
                    && field.getInitializer() != null, 5, "a static field is no constant", field);
            constants.add("" + field.getName());
        } else {
            fields++;
        }
        if (type.endsWith("[]")) {
            due(flags.contains(Modifier.FINAL), 4, "an array field that can change", field);
            arrays.add("" + field.getName());
        }
    }

    // ---- one piece of the text after the other ----

    @Override
    public Void scan(Tree tree, Void none) {
        if (tree != null) {
            due(!RULED_OUT.contains(tree.getKind()), 6, tree.getKind() + " is ruled out", tree);
        }
        return super.scan(tree, none);
    }

    @Override
    public Void visitClass(ClassTree named, Void none) {
        due(method.isEmpty() && getCurrentPath().getParentPath().getLeaf() == unit, 1,
                "a class inside another", named);
        return super.visitClass(named, none);
    }

    @Override
    public Void visitMethod(MethodTree named, Void none) {
        method = "" + named.getName();
        callsOf.put(method, new TreeSet<>());
        String answer = "" + named.getReturnType();
        due(named.getReturnType() == null || answer.equals("void") || NUMBERS.contains(answer), 4,
                method + " answers " + answer, named);
        due(named.getParameters().size() <= MOST_PARAMETERS, 10, method + " has "
                + named.getParameters().size() + " parameters", named);
        long first = trees.getSourcePositions().getStartPosition(unit, named);
        long last = trees.getSourcePositions().getEndPosition(unit, named);
        due(lineAt(last) - lineAt(first) < MOST_LINES, 10, method + " is long", named);
        super.visitMethod(named, none);
        method = "";
        return null;
    }

    @Override
    public Void visitVariable(VariableTree variable, Void none) {
        String type = "" + variable.getType();
        String element = type.endsWith("[]") ? type.substring(0, type.length() - 2) : type;
        due(NUMBERS.contains(element), 2, "the type " + type, variable);
        if (type.endsWith("[]")) {
            arrays.add("" + variable.getName());
        }
        return super.visitVariable(variable, none);
    }

    @Override
    public Void visitTypeCast(TypeCastTree cast, Void none) {
        due(NUMBERS.contains("" + cast.getType()), 6, "a cast to " + cast.getType(), cast);
        return super.visitTypeCast(cast, none);
    }

    @Override
    public Void visitNewArray(NewArrayTree made, Void none) {
        due(method.isEmpty(), 4, "an array made in " + method, made);
        boolean hasOneLength = made.getDimensions().size() == 1 && made.getInitializers() == null;
        due(hasOneLength, 4, "an array without one length", made);
        if (hasOneLength) {
            Tree length = made.getDimensions().get(0);
            due(length.getKind() == Kind.INT_LITERAL || constants.contains("" + length), 4,
                    "the length " + length, made);
        }
        return super.visitNewArray(made, none);
    }

    @Override
    public Void visitAssignment(AssignmentTree assigned, Void none) {
        due(!arrays.contains("" + assigned.getVariable()), 4, "an array is assigned", assigned);
        return super.visitAssignment(assigned, none);
    }

    @Override
    public Void visitBinary(BinaryTree both, Void none) {
        due(!arrays.contains("" + both.getLeftOperand())
                && !arrays.contains("" + both.getRightOperand()), 4, "an array is compared", both);
        return super.visitBinary(both, none);
    }

    @Override
    public Void visitMemberSelect(MemberSelectTree selected, Void none) {
        due(false, 3, "" + selected, selected);
        return super.visitMemberSelect(selected, none);
    }

    @Override
    public Void visitMethodInvocation(MethodInvocationTree call, Void none) {
        String called = "" + call.getMethodSelect();
        due(methods.contains(called), 3, called + " is no method of the class", call);
        due(!method.isEmpty(), 4, called + " is called by an initialiser", call);
        callsOf.computeIfAbsent(method, name -> new TreeSet<>()).add(called);
        due(!standsInArguments(), 10, called + " stands inside a call's arguments", call);
        return super.visitMethodInvocation(call, none);
    }

    private boolean standsInArguments() {
        TreePath path = getCurrentPath().getParentPath();
        while (path != null && !(path.getLeaf() instanceof MethodInvocationTree)) {
            path = path.getParentPath();
        }
        return path != null;
    }

    // ---- loops: a counter against a bound ----

    @Override
    public Void visitWhileLoop(WhileLoopTree loop, Void none) {
        due(false, 8, "a loop without a counter of its own", loop);
        return super.visitWhileLoop(loop, none);
    }

    @Override
    public Void visitDoWhileLoop(DoWhileLoopTree loop, Void none) {
        due(false, 8, "a loop without a counter of its own", loop);
        return super.visitDoWhileLoop(loop, none);
    }

    @Override
    public Void visitForLoop(ForLoopTree loop, Void none) {
        if (loop.getInitializer().size() == 1 && loop.getUpdate().size() == 1
                && loop.getInitializer().get(0) instanceof VariableTree counter) {
            String name = "" + counter.getName();
            String step = "" + loop.getUpdate().get(0);
            String goesOn = "" + loop.getCondition();
            boolean up = step.equals(name + "++;") && hasBound(goesOn, name + " <");
            boolean down = step.equals(name + "--;") && hasBound(goesOn, name + " >= 0");
            due(up || down, 8, "a counter without a bound", loop);
            due(!isChanged(name, loop.getStatement()), 8, name + " is changed on the way", loop);
        } else {
            due(false, 8, "a loop without a counter of its own", loop);
        }
        return super.visitForLoop(loop, none);
    }

    /** One of the conditions that all have to hold is this one, with a bound that stays. */
    private static boolean hasBound(String goesOn, String needed) {
        for (String condition : goesOn.replaceAll("^\\(|\\)$", "").split(" && ")) {
            if (condition.startsWith(needed)) {
                return true;
            }
        }
        return false;
    }

    private static boolean isChanged(String name, Tree body) {
        String text = "" + body;
        return text.matches("(?s).*\\b" + name + "( ([-+*/%&|^]|<<|>>>?)?= |\\+\\+|--).*");
    }

    // ---- calls: how deep, and never round ----

    /** How many methods deep the calls from this one go, itself counted. */
    private int depthOf(String name, List<String> callers) {
        if (callers.contains(name)) {
            faults++;
            System.out.println("rule 8: " + name + " is called by itself: " + callers);
            return 0;
        }
        List<String> nextCallers = new ArrayList<>(callers);
        nextCallers.add(name);
        int deepest = 0;
        for (String called : callsOf.getOrDefault(name, Set.of())) {
            deepest = Math.max(deepest, depthOf(called, nextCallers));
        }
        return deepest + 1;
    }

    private void lookAtCalls(Tree program) {
        for (String name : methods) {
            int depth = depthOf(name, List.of());
            due(depth <= DEEPEST_CALL, 10, "calls from " + name + " go " + depth + " deep",
                    program);
        }
    }

    private int look() {
        due(unit.getTypeDecls().size() == 1, 1, "not just one class", unit);
        ClassTree program = (ClassTree) unit.getTypeDecls().get(0);
        note(program);
        scan(unit, null);
        lookAtCalls(program);
        return faults;
    }

    public static void main(String[] args) throws IOException {
        JavaCompiler compiler = ToolProvider.getSystemJavaCompiler();
        try (StandardJavaFileManager files = compiler.getStandardFileManager(null, null, null)) {
            Path program = args.length > 0 ? Path.of(args[0]) : PROGRAM;
            JavacTask task = (JavacTask) compiler.getTask(null, files, null,
                    List.of("--release", "17"), null, files.getJavaFileObjects(program));
            CompilationUnitTree unit = task.parse().iterator().next();
            LanguageTest test = new LanguageTest(unit, Trees.instance(task));
            int faults = test.look();
            System.out.println("LanguageTest: " + test.methods.size() + " methods, "
                    + faults + " faults");
            if (faults != 0) {
                System.exit(1);
            }
        }
    }
}
