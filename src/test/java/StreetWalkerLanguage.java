import com.sun.source.tree.AssertTree;
import com.sun.source.tree.AssignmentTree;
import com.sun.source.tree.BlockTree;
import com.sun.source.tree.ClassTree;
import com.sun.source.tree.CompilationUnitTree;
import com.sun.source.tree.DoWhileLoopTree;
import com.sun.source.tree.EnhancedForLoopTree;
import com.sun.source.tree.ExpressionTree;
import com.sun.source.tree.ForLoopTree;
import com.sun.source.tree.IdentifierTree;
import com.sun.source.tree.InstanceOfTree;
import com.sun.source.tree.LambdaExpressionTree;
import com.sun.source.tree.LiteralTree;
import com.sun.source.tree.MemberReferenceTree;
import com.sun.source.tree.MemberSelectTree;
import com.sun.source.tree.MethodInvocationTree;
import com.sun.source.tree.MethodTree;
import com.sun.source.tree.NewArrayTree;
import com.sun.source.tree.NewClassTree;
import com.sun.source.tree.SynchronizedTree;
import com.sun.source.tree.ThrowTree;
import com.sun.source.tree.Tree;
import com.sun.source.tree.TryTree;
import com.sun.source.tree.TypeCastTree;
import com.sun.source.tree.VariableTree;
import com.sun.source.tree.WhileLoopTree;
import com.sun.source.util.JavacTask;
import com.sun.source.util.SourcePositions;
import com.sun.source.util.TreeScanner;
import com.sun.source.util.Trees;
import java.io.IOException;
import java.nio.file.Path;
import java.util.HashMap;
import java.util.HashSet;
import java.util.Map;
import java.util.Set;
import java.util.TreeSet;
import javax.lang.model.element.Modifier;
import javax.tools.JavaCompiler;
import javax.tools.StandardJavaFileManager;
import javax.tools.ToolProvider;

/**
 * Reads the program's source and holds it against the rules of LANGUAGE.md that its text alone can break. Rule 7, and
 * that a loop's bound is the right one, can't be seen so. Stricter than rule 8: it asks that every loop be a for.
 */
public final class StreetWalkerLanguage extends TreeScanner<Void, Void> {
    private static final Path PROGRAM = Path.of("src/main/java/StreetWalker.java");
    private static final Set<String> NUMBERS = Set.of("int", "long", "short", "byte", "char", "boolean");
    private static final Set<String> CONSTANTS = Set.of("int", "long");
    private static final int GREATEST_DEPTH = 6;
    private static final int GREATEST_PARAMETERS = 7;
    private static final int GREATEST_LINES = 60;
    private static final int GREATEST_FIELDS = 40;

    private static int wrong = 0;

    private final CompilationUnitTree unit;
    private final SourcePositions positions;
    private final Map<String, Set<String>> callsOf = new HashMap<>();
    private final Set<String> arrayFields = new HashSet<>();
    private final Set<String> publicMethods = new TreeSet<>();
    private final Set<String> privateMethods = new TreeSet<>();
    private int classes = 0;
    private int fields = 0;
    private String method = null;

    private StreetWalkerLanguage(CompilationUnitTree unit, SourcePositions positions) {
        this.unit = unit;
        this.positions = positions;
    }

    private static void complain(int rule, String what) {
        wrong++;
        System.out.println("rule " + rule + ": " + what);
    }

    private void complain(int rule, String what, Tree tree) {
        long start = positions.getStartPosition(unit, tree);
        complain(rule, what + ", line " + unit.getLineMap().getLineNumber(start) + ": " + tree.toString().strip());
    }

    private static boolean isAllowedType(Tree type) {
        String name = type.toString();
        return NUMBERS.contains(name.endsWith("[]") ? name.substring(0, name.length() - 2) : name);
    }

    @Override
    public Void visitCompilationUnit(CompilationUnitTree tree, Void v) {
        if (tree.getPackage() != null) {
            complain(1, "a package line");
        }
        if (!tree.getImports().isEmpty()) {
            complain(3, "an import");
        }
        return super.visitCompilationUnit(tree, v);
    }

    @Override
    public Void visitClass(ClassTree tree, Void v) {
        classes++;
        Set<Modifier> modifiers = tree.getModifiers().getFlags();
        if (classes > 1 || tree.getKind() != Tree.Kind.CLASS || !modifiers.equals(Set.of(Modifier.PUBLIC, Modifier.FINAL))) {
            complain(1, "not one public final class", tree);
        }
        for (Tree member : tree.getMembers()) {
            if (member instanceof BlockTree) {
                complain(5, "an initialiser", member);
            } else if (member instanceof VariableTree) {
                lookAtField((VariableTree) member);
            }
        }
        return super.visitClass(tree, v);
    }

    private void lookAtField(VariableTree field) {
        Set<Modifier> modifiers = field.getModifiers().getFlags();
        String type = field.getType().toString();
        if (modifiers.contains(Modifier.STATIC)) {
            if (!modifiers.contains(Modifier.FINAL) || !CONSTANTS.contains(type) || field.getInitializer() == null) {
                complain(5, "a static field that isn't a constant", field);
            }
            return;
        }
        fields++;
        if (type.endsWith("[]")) {
            arrayFields.add(field.getName().toString());
            if (!(field.getInitializer() instanceof NewArrayTree)) {
                complain(4, "an array that isn't made in its field's initialiser", field);
            }
        }
    }

    @Override
    public Void visitMethod(MethodTree tree, Void v) {
        method = tree.getName().toString();
        callsOf.putIfAbsent(method, new TreeSet<>());
        boolean isPrivate = tree.getModifiers().getFlags().contains(Modifier.PRIVATE);
        (isPrivate ? privateMethods : publicMethods).add(method);
        String answer = String.valueOf(tree.getReturnType());
        if (tree.getReturnType() != null && !answer.equals("void") && !NUMBERS.contains(answer)) {
            complain(answer.endsWith("[]") ? 4 : 2, method + " answers " + answer);
        }
        if (tree.getParameters().size() > GREATEST_PARAMETERS) {
            complain(10, method + " takes " + tree.getParameters().size() + " parameters");
        }
        long first = unit.getLineMap().getLineNumber(positions.getStartPosition(unit, tree));
        long last = unit.getLineMap().getLineNumber(positions.getEndPosition(unit, tree));
        if (last - first >= GREATEST_LINES) {
            complain(10, method + " has " + (last - first + 1) + " lines");
        }
        super.visitMethod(tree, v);
        method = null;
        return null;
    }

    @Override
    public Void visitVariable(VariableTree tree, Void v) {
        if (!isAllowedType(tree.getType())) {
            complain(2, "a variable of another type", tree);
        }
        return super.visitVariable(tree, v);
    }

    @Override
    public Void visitMethodInvocation(MethodInvocationTree tree, Void v) {
        String called = tree.getMethodSelect().toString();
        if (!(tree.getMethodSelect() instanceof IdentifierTree)) {
            complain(3, "a call of something else's method", tree);
        }
        callsOf.computeIfAbsent(String.valueOf(method), m -> new TreeSet<>()).add(called);
        for (ExpressionTree argument : tree.getArguments()) {
            new TreeScanner<Void, Void>() {
                @Override
                public Void visitMethodInvocation(MethodInvocationTree inner, Void v) {
                    complain(10, "a call inside the arguments of another", tree);
                    return null;
                }
            }.scan(argument, null);
        }
        return super.visitMethodInvocation(tree, v);
    }

    @Override
    public Void visitNewArray(NewArrayTree tree, Void v) {
        if (method != null) {
            complain(4, method + " makes an array", tree);
        }
        if (tree.getDimensions().size() != 1 || tree.getInitializers() != null) {
            complain(4, "an array that isn't made with one length", tree);
        }
        return super.visitNewArray(tree, v);
    }

    @Override
    public Void visitAssignment(AssignmentTree tree, Void v) {
        if (arrayFields.contains(tree.getVariable().toString().replaceFirst("^this\\.", ""))) {
            complain(4, "an array field is assigned to", tree);
        }
        return super.visitAssignment(tree, v);
    }

    @Override
    public Void visitLiteral(LiteralTree tree, Void v) {
        boolean isObject = tree.getKind() == Tree.Kind.STRING_LITERAL || tree.getKind() == Tree.Kind.NULL_LITERAL;
        if (isObject || tree.getKind() == Tree.Kind.DOUBLE_LITERAL || tree.getKind() == Tree.Kind.FLOAT_LITERAL) {
            complain(2, "a literal of another type", tree);
        }
        return super.visitLiteral(tree, v);
    }

    @Override
    public Void visitMemberSelect(MemberSelectTree tree, Void v) {
        boolean isOwn = tree.getExpression().toString().equals("this");
        if (!isOwn && !tree.getIdentifier().contentEquals("length")) {
            complain(3, "a member of something else", tree);
        }
        return super.visitMemberSelect(tree, v);
    }

    @Override
    public Void visitForLoop(ForLoopTree tree, Void v) {
        if (tree.getCondition() == null || tree.getUpdate().isEmpty()) {
            complain(8, "a loop without a counter against a bound", tree);
        }
        return super.visitForLoop(tree, v);
    }

    @Override
    public Void visitWhileLoop(WhileLoopTree tree, Void v) {
        complain(8, "a loop that isn't a for", tree);
        return super.visitWhileLoop(tree, v);
    }

    @Override
    public Void visitDoWhileLoop(DoWhileLoopTree tree, Void v) {
        complain(8, "a loop that isn't a for", tree);
        return super.visitDoWhileLoop(tree, v);
    }

    @Override
    public Void visitEnhancedForLoop(EnhancedForLoopTree tree, Void v) {
        complain(8, "a loop without a counter against a bound", tree);
        return super.visitEnhancedForLoop(tree, v);
    }

    @Override
    public Void visitNewClass(NewClassTree tree, Void v) {
        complain(4, "an object is made", tree);
        return super.visitNewClass(tree, v);
    }

    @Override
    public Void visitTypeCast(TypeCastTree tree, Void v) {
        if (!NUMBERS.contains(tree.getType().toString())) {
            complain(6, "a cast of a reference", tree);
        }
        return super.visitTypeCast(tree, v);
    }

    @Override
    public Void visitThrow(ThrowTree tree, Void v) {
        complain(6, "throw", tree);
        return super.visitThrow(tree, v);
    }

    @Override
    public Void visitTry(TryTree tree, Void v) {
        complain(6, "try", tree);
        return super.visitTry(tree, v);
    }

    @Override
    public Void visitSynchronized(SynchronizedTree tree, Void v) {
        complain(6, "synchronized", tree);
        return super.visitSynchronized(tree, v);
    }

    @Override
    public Void visitAssert(AssertTree tree, Void v) {
        complain(6, "assert", tree);
        return super.visitAssert(tree, v);
    }

    @Override
    public Void visitInstanceOf(InstanceOfTree tree, Void v) {
        complain(6, "instanceof", tree);
        return super.visitInstanceOf(tree, v);
    }

    @Override
    public Void visitLambdaExpression(LambdaExpressionTree tree, Void v) {
        complain(6, "a lambda", tree);
        return super.visitLambdaExpression(tree, v);
    }

    @Override
    public Void visitMemberReference(MemberReferenceTree tree, Void v) {
        complain(6, "a method reference", tree);
        return super.visitMemberReference(tree, v);
    }

    /** How many methods stand over each other at most in a call of this one, itself counted. */
    private int depthOf(String name, Set<String> callers) {
        if (callers.contains(name)) {
            complain(8, name + " calls itself through " + callers);
            return 0;
        }
        Set<String> within = new TreeSet<>(callers);
        within.add(name);
        int depth = 0;
        for (String called : callsOf.getOrDefault(name, Set.of())) {
            depth = Math.max(depth, depthOf(called, within));
        }
        return depth + 1;
    }

    private void lookAtTheWhole() {
        callsOf.forEach((caller, calledOnes) -> calledOnes.forEach(called -> {
            if (!callsOf.containsKey(called)) {
                complain(3, caller + " calls " + called + ", which is no method of the program");
            }
        }));
        for (String name : publicMethods) {
            int depth = depthOf(name, Set.of());
            if (depth > GREATEST_DEPTH) {
                complain(10, name + " goes " + depth + " calls deep");
            }
            if (privateMethods.contains(name)) {
                complain(1, "a private method is named " + name + " too");
            }
        }
        if (fields > GREATEST_FIELDS) {
            complain(10, "the class has " + fields + " fields");
        }
        if (classes != 1 || publicMethods.isEmpty()) {
            complain(1, "no class was found");
        }
    }

    public static void main(String[] args) throws IOException {
        JavaCompiler compiler = ToolProvider.getSystemJavaCompiler();
        try (StandardJavaFileManager files = compiler.getStandardFileManager(null, null, null)) {
            JavacTask task = (JavacTask) compiler.getTask(null, files, null, null, null, files.getJavaFileObjects(PROGRAM));
            CompilationUnitTree unit = task.parse().iterator().next();
            StreetWalkerLanguage look = new StreetWalkerLanguage(unit, Trees.instance(task).getSourcePositions());
            look.scan(unit, null);
            look.lookAtTheWhole();
        }
        System.out.println(wrong == 0 ? "the program keeps to the rules" : wrong + " places break a rule");
        if (wrong != 0) {
            System.exit(1);
        }
    }
}
