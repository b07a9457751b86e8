import com.sun.source.tree.ArrayAccessTree;
import com.sun.source.tree.ArrayTypeTree;
import com.sun.source.tree.AssignmentTree;
import com.sun.source.tree.BinaryTree;
import com.sun.source.tree.ClassTree;
import com.sun.source.tree.CompilationUnitTree;
import com.sun.source.tree.CompoundAssignmentTree;
import com.sun.source.tree.ExpressionTree;
import com.sun.source.tree.ForLoopTree;
import com.sun.source.tree.IdentifierTree;
import com.sun.source.tree.LiteralTree;
import com.sun.source.tree.MemberSelectTree;
import com.sun.source.tree.MethodInvocationTree;
import com.sun.source.tree.MethodTree;
import com.sun.source.tree.NewArrayTree;
import com.sun.source.tree.PrimitiveTypeTree;
import com.sun.source.tree.Tree;
import com.sun.source.tree.TypeCastTree;
import com.sun.source.tree.VariableTree;
import com.sun.source.util.JavacTask;
import com.sun.source.util.SourcePositions;
import com.sun.source.util.TreeScanner;
import com.sun.source.util.Trees;
import java.io.IOException;
import java.nio.file.Path;
import java.util.List;
import java.util.Map;
import java.util.Set;
import java.util.TreeMap;
import java.util.TreeSet;
import javax.lang.model.element.Modifier;
import javax.lang.model.type.TypeKind;
import javax.tools.JavaCompiler;
import javax.tools.StandardJavaFileManager;
import javax.tools.ToolProvider;

/** The rules of LANGUAGE.md that the source shows; FaceTest has those that the class shows. */
public final class RulesTest {
    private static final Path SOURCE = Path.of("src/main/java/TrapProver.java");

    private static final Set<Tree.Kind> FORBIDDEN = Set.of(
        Tree.Kind.THROW, Tree.Kind.TRY, Tree.Kind.CATCH, Tree.Kind.SYNCHRONIZED, Tree.Kind.ASSERT,
        Tree.Kind.INSTANCE_OF, Tree.Kind.LAMBDA_EXPRESSION, Tree.Kind.MEMBER_REFERENCE,
        Tree.Kind.NEW_CLASS, Tree.Kind.NULL_LITERAL, Tree.Kind.STRING_LITERAL,
        Tree.Kind.FLOAT_LITERAL, Tree.Kind.DOUBLE_LITERAL,
        Tree.Kind.ANNOTATION, Tree.Kind.ENUM, Tree.Kind.INTERFACE, Tree.Kind.RECORD);

    private static final Set<Tree.Kind> COMPARISONS = Set.of(
        Tree.Kind.LESS_THAN, Tree.Kind.LESS_THAN_EQUAL, Tree.Kind.GREATER_THAN,
        Tree.Kind.GREATER_THAN_EQUAL, Tree.Kind.EQUAL_TO, Tree.Kind.NOT_EQUAL_TO);

    private static final Set<Tree.Kind> DIVISIONS = Set.of(
        Tree.Kind.DIVIDE, Tree.Kind.REMAINDER, Tree.Kind.DIVIDE_ASSIGNMENT,
        Tree.Kind.REMAINDER_ASSIGNMENT);

    private static final Check CHECK = new Check();
    private static final Map<String, Set<String>> CALLS = new TreeMap<>();
    private static final Set<String> TESTS = new TreeSet<>();

    private static CompilationUnitTree unit;
    private static SourcePositions positions;

    public static void main(String[] args) throws IOException {
        parse();
        oneClass();
        ClassTree theClass = (ClassTree) unit.getTypeDecls().get(0);
        fields(theClass);
        methods(theClass);
        new Looker().scan(theClass, null);
        indexesAndDivisors(theClass);
        depth();
        CHECK.end();
    }

    private static void parse() throws IOException {
        JavaCompiler compiler = ToolProvider.getSystemJavaCompiler();
        try (StandardJavaFileManager files = compiler.getStandardFileManager(null, null, null)) {
            JavacTask task = (JavacTask) compiler.getTask(
                null, files, null, List.of(), null, files.getJavaFileObjects(SOURCE));
            unit = task.parse().iterator().next();
            positions = Trees.instance(task).getSourcePositions();
        }
    }

    private static long line(Tree tree) {
        return unit.getLineMap().getLineNumber(positions.getStartPosition(unit, tree));
    }

    private static void holds(Tree where, String what, boolean held) {
        CHECK.due("line " + line(where) + ": " + what, held, true);
    }

    private static void oneClass() {
        CHECK.sentence("Rules 1 and 3: one class, no package, nothing imported");
        CHECK.due("package line", unit.getPackage() == null, true);
        CHECK.due("imports", unit.getImports().size(), 0);
        CHECK.due("classes", unit.getTypeDecls().size(), 1);
    }

    private static void fields(ClassTree theClass) {
        CHECK.sentence("Rules 4 and 5: arrays made in fields that stay, no static initialiser");
        for (Tree member : theClass.getMembers()) {
            holds(member, "no block of its own", member.getKind() != Tree.Kind.BLOCK);
            if (member instanceof VariableTree field && field.getType() instanceof ArrayTypeTree) {
                Set<Modifier> modifiers = field.getModifiers().getFlags();
                holds(field, "an array field is final", modifiers.contains(Modifier.FINAL));
                holds(field, "an array is not static", !modifiers.contains(Modifier.STATIC));
                holds(field, "an array is made at once", isMade(field.getInitializer(), theClass));
            }
        }
    }

    private static boolean isMade(ExpressionTree initialiser, ClassTree theClass) {
        return initialiser instanceof NewArrayTree made && made.getInitializers() == null
            && made.getDimensions().size() == 1
            && isConstant(made.getDimensions().get(0), theClass);
    }

    private static boolean isConstant(Tree length, ClassTree theClass) {
        if (length instanceof LiteralTree literal) {
            return (Integer) literal.getValue() >= 1;
        }
        for (Tree member : theClass.getMembers()) {
            if (member instanceof VariableTree field && length instanceof IdentifierTree name
                    && field.getName().equals(name.getName())
                    && field.getModifiers().getFlags().contains(Modifier.STATIC)) {
                return isConstant(field.getInitializer(), theClass);
            }
        }
        return false;
    }

    private static void methods(ClassTree theClass) {
        CHECK.sentence("Rules 4 and 10: short methods that answer no array");
        for (Tree member : theClass.getMembers()) {
            if (member instanceof MethodTree method) {
                long end = positions.getEndPosition(unit, method);
                long lines = unit.getLineMap().getLineNumber(end) - line(method) + 1;
                holds(method, "some sixty lines", lines <= 60);
                holds(method, "no array answered", !(method.getReturnType() instanceof ArrayTypeTree));
                holds(method, "seven parameters", method.getParameters().size() <= 7);
                Set<String> called = new TreeSet<>();
                new CallCollector().scan(method.getBody(), called);
                String name = method.getName().toString();
                holds(method, "a name of its own", CALLS.put(name, called) == null);
                if (answersBoolean(method)) {
                    TESTS.add(name);
                }
            }
        }
        CHECK.sentence("Rules 2, 3, 4, 6, 8 and 10: what stands in the methods");
    }

    private static boolean answersBoolean(MethodTree method) {
        return method.getReturnType() instanceof PrimitiveTypeTree type
            && type.getPrimitiveTypeKind() == TypeKind.BOOLEAN;
    }

    private static void indexesAndDivisors(ClassTree theClass) {
        CHECK.sentence("Rule 7: an index is looked at before it is used, a divisor before it divides");
        for (Tree member : theClass.getMembers()) {
            if (member instanceof MethodTree method) {
                new LookedAt(theClass).scan(method.getBody(), null);
            }
        }
    }

    /** Goes down from each method; a call that comes back to a method above it never gets out. */
    private static void depth() {
        CHECK.sentence("Rules 8 and 10: no recursion, calls at most six deep");
        for (String name : CALLS.keySet()) {
            CHECK.due(name + " goes at most six deep", depthOf(name, 1) <= 6, true);
        }
    }

    private static int depthOf(String name, int above) {
        int deepest = above;
        if (above <= 6) {
            for (String called : CALLS.getOrDefault(name, Set.of())) {
                deepest = Math.max(deepest, depthOf(called, above + 1));
            }
        }
        return deepest;
    }

    private static final class CallCollector extends TreeScanner<Void, Set<String>> {
        @Override
        public Void visitMethodInvocation(MethodInvocationTree call, Set<String> called) {
            called.add(call.getMethodSelect().toString());
            return super.visitMethodInvocation(call, called);
        }
    }

    /** Follows one method's lines, and knows which names they have compared or tested so far. */
    private static final class LookedAt extends TreeScanner<Void, Void> {
        private final ClassTree theClass;
        private final Set<String> names = new TreeSet<>();

        LookedAt(ClassTree theClass) {
            this.theClass = theClass;
        }

        private void look(Tree tree) {
            if (tree instanceof IdentifierTree name) {
                names.add(name.getName().toString());
            }
        }

        private boolean isLookedAt(Tree tree) {
            return tree instanceof IdentifierTree name && names.contains(name.getName().toString());
        }

        private void divides(Tree where, ExpressionTree divisor) {
            if (DIVISIONS.contains(where.getKind())) {
                boolean known = isConstant(divisor, theClass) || isLookedAt(divisor);
                holds(where, "the divisor " + divisor + " is looked at", known);
            }
        }

        @Override
        public Void visitArrayAccess(ArrayAccessTree access, Void none) {
            holds(access, "the index of " + access + " is looked at", isLookedAt(access.getIndex()));
            return super.visitArrayAccess(access, none);
        }

        @Override
        public Void visitBinary(BinaryTree binary, Void none) {
            divides(binary, binary.getRightOperand());
            super.visitBinary(binary, none);
            if (COMPARISONS.contains(binary.getKind())) {
                look(binary.getLeftOperand());
                look(binary.getRightOperand());
            }
            return null;
        }

        @Override
        public Void visitMethodInvocation(MethodInvocationTree call, Void none) {
            super.visitMethodInvocation(call, none);
            if (TESTS.contains(call.getMethodSelect().toString())) {
                call.getArguments().forEach(this::look);
            }
            return null;
        }

        // A new value has not been looked at.
        @Override
        public Void visitVariable(VariableTree variable, Void none) {
            super.visitVariable(variable, none);
            names.remove(variable.getName().toString());
            return null;
        }

        @Override
        public Void visitAssignment(AssignmentTree assignment, Void none) {
            super.visitAssignment(assignment, none);
            names.remove(assignment.getVariable().toString());
            return null;
        }

        @Override
        public Void visitCompoundAssignment(CompoundAssignmentTree assignment, Void none) {
            divides(assignment, assignment.getExpression());
            super.visitCompoundAssignment(assignment, none);
            names.remove(assignment.getVariable().toString());
            return null;
        }
    }

    private static final class Looker extends TreeScanner<Void, Void> {
        @Override
        public Void scan(Tree tree, Void none) {
            if (tree != null) {
                holds(tree, "no " + tree.getKind(), !FORBIDDEN.contains(tree.getKind()));
            }
            return super.scan(tree, none);
        }

        @Override
        public Void visitVariable(VariableTree variable, Void none) {
            Tree type = variable.getType();
            Tree single = type instanceof ArrayTypeTree array ? array.getType() : type;
            holds(variable, "a type of rule 2", isWhole(single));
            return super.visitVariable(variable, none);
        }

        @Override
        public Void visitTypeCast(TypeCastTree cast, Void none) {
            holds(cast, "a cast between numbers", isWhole(cast.getType()));
            return super.visitTypeCast(cast, none);
        }

        // Without a dot, nothing of the library and none of Object's methods can be named.
        @Override
        public Void visitMemberSelect(MemberSelectTree select, Void none) {
            holds(select, "no dot", false);
            return super.visitMemberSelect(select, none);
        }

        @Override
        public Void visitMethodInvocation(MethodInvocationTree call, Void none) {
            holds(call, "a call of its own", CALLS.containsKey(call.getMethodSelect().toString()));
            Set<String> within = new TreeSet<>();
            new CallCollector().scan(call.getArguments(), within);
            holds(call, "no call in another's arguments", within.isEmpty());
            return super.visitMethodInvocation(call, none);
        }

        @Override
        public Void visitMethod(MethodTree method, Void none) {
            // A method makes no array: the fields' initialisers stand outside the methods.
            new TreeScanner<Void, Void>() {
                @Override
                public Void visitNewArray(NewArrayTree made, Void ignored) {
                    holds(made, "no array made in a method", false);
                    return null;
                }
            }.scan(method, null);
            return super.visitMethod(method, none);
        }

        @Override
        public Void visitForLoop(ForLoopTree loop, Void none) {
            holds(loop, "a counter", loop.getInitializer().size() == 1 && loop.getUpdate().size() == 1);
            holds(loop, "a bound", loop.getCondition() != null);
            return super.visitForLoop(loop, none);
        }

        private static boolean isWhole(Tree type) {
            return type instanceof PrimitiveTypeTree primitive
                && primitive.getPrimitiveTypeKind() != TypeKind.FLOAT
                && primitive.getPrimitiveTypeKind() != TypeKind.DOUBLE;
        }
    }
}
