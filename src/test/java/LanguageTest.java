import com.sun.source.tree.AssignmentTree;
import com.sun.source.tree.ClassTree;
import com.sun.source.tree.CompilationUnitTree;
import com.sun.source.tree.DoWhileLoopTree;
import com.sun.source.tree.ExpressionTree;
import com.sun.source.tree.ForLoopTree;
import com.sun.source.tree.IdentifierTree;
import com.sun.source.tree.LiteralTree;
import com.sun.source.tree.MemberSelectTree;
import com.sun.source.tree.MethodInvocationTree;
import com.sun.source.tree.MethodTree;
import com.sun.source.tree.NewArrayTree;
import com.sun.source.tree.Tree;
import com.sun.source.tree.TypeCastTree;
import com.sun.source.tree.VariableTree;
import com.sun.source.tree.WhileLoopTree;
import com.sun.source.util.JavacTask;
import com.sun.source.util.SourcePositions;
import com.sun.source.util.TreeScanner;
import com.sun.source.util.Trees;
import java.io.IOException;
import java.nio.file.Path;
import java.util.HashMap;
import java.util.HashSet;
import java.util.Map;
import java.util.Set;
import java.util.TreeSet;
import javax.lang.model.element.Modifier;
import javax.tools.JavaCompiler;
import javax.tools.StandardJavaFileManager;
import javax.tools.ToolProvider;

/** The source of the class keeps to the rules of LANGUAGE.md, as far as its syntax shows them. */
public final class LanguageTest {
    private static final Path SOURCE = Path.of("src/main/java/TrajectoryCheck.java");
    private static final int MOST_LINES = 60;
    private static final int DEEPEST_CALLS = 6;

    private static final Set<String> TYPES = Set.of(
        "int", "long", "short", "byte", "char", "boolean",
        "int[]", "long[]", "short[]", "byte[]", "char[]", "boolean[]");
    private static final Set<Tree.Kind> LITERALS = Set.of(
        Tree.Kind.INT_LITERAL, Tree.Kind.LONG_LITERAL, Tree.Kind.CHAR_LITERAL, Tree.Kind.BOOLEAN_LITERAL);
    private static final Set<Tree.Kind> FORBIDDEN = Set.of(
        Tree.Kind.NEW_CLASS, Tree.Kind.THROW, Tree.Kind.TRY, Tree.Kind.SYNCHRONIZED, Tree.Kind.ASSERT,
        Tree.Kind.INSTANCE_OF, Tree.Kind.LAMBDA_EXPRESSION, Tree.Kind.MEMBER_REFERENCE,
        Tree.Kind.INTERFACE, Tree.Kind.ENUM, Tree.Kind.RECORD, Tree.Kind.ANNOTATION_TYPE);

    private static CompilationUnitTree unit;
    private static SourcePositions positions;
    private static ClassTree theClass;
    private static final Set<String> methods = new TreeSet<>();
    private static final Set<String> names = new HashSet<>();
    private static final Map<String, Set<String>> calls = new HashMap<>();

    public static void main(String[] args) throws IOException {
        read();
        oneClass();
        collectNames();
        new Words().scan(unit, null);
        fields();
        for (Tree member : theClass.getMembers()) {
            if (member instanceof MethodTree method) {
                shape(method);
            }
        }
        callsWithoutRecursion();
        Due.end();
    }

    private static void read() throws IOException {
        JavaCompiler compiler = ToolProvider.getSystemJavaCompiler();
        try (StandardJavaFileManager files = compiler.getStandardFileManager(null, null, null)) {
            JavacTask task = (JavacTask) compiler.getTask(null, files, null, null, null, files.getJavaFileObjects(SOURCE));
            unit = task.parse().iterator().next();
            positions = Trees.instance(task).getSourcePositions();
        }
    }

    private static void holds(String what, boolean so) {
        Due.due(what, so ? 1 : 0, 1);
    }

    private static long line(Tree tree) {
        return unit.getLineMap().getLineNumber(positions.getStartPosition(unit, tree));
    }

    private static String at(Tree tree) {
        return "line " + line(tree) + ", " + tree.getKind() + " " + tree.toString().strip().lines().findFirst().orElse("");
    }

    private static void oneClass() {
        Due.due("rule 1: classes in the file", unit.getTypeDecls().size(), 1);
        holds("rule 1: no package line", unit.getPackageName() == null);
        Due.due("rule 3: imports", unit.getImports().size(), 0);
        theClass = (ClassTree) unit.getTypeDecls().get(0);
        for (Tree member : theClass.getMembers()) {
            boolean plain = member instanceof MethodTree || member instanceof VariableTree;
            holds("rules 1 and 5: a field or a method: " + at(member), plain);
        }
    }

    private static void collectNames() {
        new TreeScanner<Void, Void>() {
            @Override
            public Void visitVariable(VariableTree variable, Void nothing) {
                names.add(variable.getName().toString());
                return super.visitVariable(variable, nothing);
            }

            @Override
            public Void visitMethod(MethodTree method, Void nothing) {
                methods.add(method.getName().toString());
                return super.visitMethod(method, nothing);
            }
        }.scan(unit, null);
    }

    private static boolean hasCall(Tree tree) {
        boolean[] found = {false};
        new TreeScanner<Void, Void>() {
            @Override
            public Void visitMethodInvocation(MethodInvocationTree call, Void nothing) {
                found[0] = true;
                return null;
            }
        }.scan(tree, null);
        return found[0];
    }

    /** Looks at each piece of the source for what the rules leave out. */
    private static final class Words extends TreeScanner<Void, Void> {
        private String method = "";

        @Override
        public Void scan(Tree tree, Void nothing) {
            if (tree != null) {
                holds("rules 1, 4 and 6: " + at(tree), !FORBIDDEN.contains(tree.getKind()));
            }
            return super.scan(tree, nothing);
        }

        @Override
        public Void visitMethod(MethodTree tree, Void nothing) {
            method = tree.getName().toString();
            holds("rule 1: one method of a name: " + method, calls.put(method, new TreeSet<>()) == null);
            // A constructor has no type to answer.
            String type = tree.getReturnType() == null ? "void" : tree.getReturnType().toString();
            holds("rules 2 and 4: answers no array: " + method, type.equals("void") || TYPES.contains(type) && !type.endsWith("]"));
            return super.visitMethod(tree, nothing);
        }

        @Override
        public Void visitVariable(VariableTree tree, Void nothing) {
            holds("rule 2: " + at(tree), TYPES.contains(tree.getType().toString()));
            return super.visitVariable(tree, nothing);
        }

        @Override
        public Void visitLiteral(LiteralTree tree, Void nothing) {
            holds("rules 2 and 4: " + at(tree), LITERALS.contains(tree.getKind()));
            return super.visitLiteral(tree, nothing);
        }

        @Override
        public Void visitTypeCast(TypeCastTree tree, Void nothing) {
            holds("rule 6: " + at(tree), TYPES.contains(tree.getType().toString()));
            return super.visitTypeCast(tree, nothing);
        }

        @Override
        public Void visitIdentifier(IdentifierTree tree, Void nothing) {
            String name = tree.getName().toString();
            holds("rule 3: " + at(tree), names.contains(name) || methods.contains(name));
            return super.visitIdentifier(tree, nothing);
        }

        @Override
        public Void visitMemberSelect(MemberSelectTree tree, Void nothing) {
            holds("rule 3: " + at(tree), tree.getIdentifier().contentEquals("length"));
            return super.visitMemberSelect(tree, nothing);
        }

        @Override
        public Void visitNewArray(NewArrayTree tree, Void nothing) {
            holds("rule 4: arrays are made in the fields' initialisers: " + at(tree), method.isEmpty() || isOfAField(tree));
            holds("rule 4: with a length: " + at(tree), tree.getInitializers() == null && tree.getDimensions().size() == 1);
            return super.visitNewArray(tree, nothing);
        }

        @Override
        public Void visitMethodInvocation(MethodInvocationTree tree, Void nothing) {
            for (ExpressionTree argument : tree.getArguments()) {
                holds("rule 10: no call inside the arguments of another: " + at(tree), !hasCall(argument));
            }
            calls.get(method).add(tree.getMethodSelect().toString());
            return super.visitMethodInvocation(tree, nothing);
        }

        @Override
        public Void visitAssignment(AssignmentTree tree, Void nothing) {
            holds("rule 4: no array becomes another one: " + at(tree), !isArray(tree.getVariable().toString()));
            return super.visitAssignment(tree, nothing);
        }

        @Override
        public Void visitForLoop(ForLoopTree tree, Void nothing) {
            Tree condition = tree.getCondition();
            boolean counts = condition != null && Set.of(Tree.Kind.LESS_THAN, Tree.Kind.LESS_THAN_EQUAL,
                Tree.Kind.GREATER_THAN, Tree.Kind.GREATER_THAN_EQUAL).contains(condition.getKind());
            holds("rule 8: a counter against a bound: " + at(tree), counts && tree.getUpdate().size() == 1);
            return super.visitForLoop(tree, nothing);
        }

        @Override
        public Void visitWhileLoop(WhileLoopTree tree, Void nothing) {
            holds("rule 8: loops are for loops here: " + at(tree), false);
            return super.visitWhileLoop(tree, nothing);
        }

        @Override
        public Void visitDoWhileLoop(DoWhileLoopTree tree, Void nothing) {
            holds("rule 8: loops are for loops here: " + at(tree), false);
            return super.visitDoWhileLoop(tree, nothing);
        }
    }

    private static boolean isOfAField(Tree array) {
        for (Tree member : theClass.getMembers()) {
            if (member instanceof VariableTree field && field.getInitializer() == array) {
                return true;
            }
        }
        return false;
    }

    private static boolean isArray(String name) {
        for (Tree member : theClass.getMembers()) {
            if (member instanceof VariableTree field && field.getName().contentEquals(name)) {
                return field.getType().toString().endsWith("]");
            }
        }
        return false;
    }

    private static void fields() {
        int notConstant = 0;
        for (Tree member : theClass.getMembers()) {
            if (!(member instanceof VariableTree field)) {
                continue;
            }
            Set<Modifier> modifiers = field.getModifiers().getFlags();
            boolean isStatic = modifiers.contains(Modifier.STATIC);
            boolean isNumber = Set.of("int", "long").contains(field.getType().toString());
            boolean isFinal = modifiers.contains(Modifier.FINAL) && field.getInitializer() != null;
            holds("rule 5: a static field is a constant: " + at(field), !isStatic || isNumber && isFinal && !hasCall(field.getInitializer()));
            holds("rule 4: an array field is final: " + at(field), !field.getType().toString().endsWith("]") || isFinal && !isStatic);
            notConstant += isStatic ? 0 : 1;
        }
        holds("rule 10: at most some forty fields", notConstant <= 40);
    }

    private static void shape(MethodTree method) {
        long last = unit.getLineMap().getLineNumber(positions.getEndPosition(unit, method));
        holds("rule 10: at most seven parameters: " + method.getName(), method.getParameters().size() <= 7);
        holds("rule 10: a short method: " + method.getName(), last - line(method) + 1 <= MOST_LINES);
    }

    /** A chain of calls that is no longer than the rule's depth can't come back to a method either. */
    private static void callsWithoutRecursion() {
        for (String start : calls.keySet()) {
            Set<String> level = Set.of(start);
            int deep = 0;
            while (!level.isEmpty() && deep < DEEPEST_CALLS) {
                Set<String> next = new TreeSet<>();
                for (String caller : level) {
                    holds("rule 3: its own method: " + caller, methods.contains(caller));
                    next.addAll(calls.getOrDefault(caller, Set.of()));
                }
                level = next;
                deep++;
            }
            holds("rules 8 and 10: calls from " + start + " end within six", level.isEmpty());
        }
    }
}
