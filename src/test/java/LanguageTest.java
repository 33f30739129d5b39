import com.sun.source.tree.AssertTree;
import com.sun.source.tree.BinaryTree;
import com.sun.source.tree.BlockTree;
import com.sun.source.tree.ClassTree;
import com.sun.source.tree.CompilationUnitTree;
import com.sun.source.tree.DoWhileLoopTree;
import com.sun.source.tree.ExpressionTree;
import com.sun.source.tree.ForLoopTree;
import com.sun.source.tree.LambdaExpressionTree;
import com.sun.source.tree.LiteralTree;
import com.sun.source.tree.MemberReferenceTree;
import com.sun.source.tree.MethodInvocationTree;
import com.sun.source.tree.MethodTree;
import com.sun.source.tree.NewArrayTree;
import com.sun.source.tree.NewClassTree;
import com.sun.source.tree.SynchronizedTree;
import com.sun.source.tree.ThrowTree;
import com.sun.source.tree.Tree;
import com.sun.source.tree.TryTree;
import com.sun.source.tree.TypeCastTree;
import com.sun.source.tree.VariableTree;
import com.sun.source.tree.WhileLoopTree;
import com.sun.source.util.JavacTask;
import com.sun.source.util.TreePath;
import com.sun.source.util.TreePathScanner;
import com.sun.source.util.Trees;
import java.io.IOException;
import java.nio.file.Path;
import java.util.List;
import java.util.Map;
import java.util.Set;
import java.util.TreeMap;
import java.util.TreeSet;
import javax.lang.model.element.Element;
import javax.lang.model.element.Modifier;
import javax.tools.JavaCompiler;
import javax.tools.StandardJavaFileManager;
import javax.tools.ToolProvider;

/**
 * ../shared/LANGUAGE.md, as far as it can be seen from the tree that the compiler makes of the class. Where the class keeps
 * to less than a rule leaves (no try, no recursion, objects made in constructors alone), the test asks for that.
 */
public final class LanguageTest extends TreePathScanner<Void, Void> {
    private static final int MAX_PARAMETERS = 7;
    private static final int MAX_LINES = 60;
    private static final int MAX_DEPTH = 8;
    private static final int MAX_CLASSES = 12;
    private static final int MAX_FIELDS = 20;

    private static final Set<String> LIBRARY = Set.of("java.lang.String.length", "java.lang.String.charAt",
            "java.lang.Integer.bitCount", "java.lang.Long.bitCount", "java.lang.Math.max", "java.lang.Math.min",
            "java.lang.System.arraycopy", "java.util.Arrays.fill");
    private static final Set<String> NUMBERS = Set.of("int", "long", "boolean", "byte", "int[]", "byte[]", "String");
    private static final Set<String> CONSTANTS = Set.of("int", "long", "boolean", "String");
    private static final Set<Tree.Kind> COMPARED = Set.of(Tree.Kind.LESS_THAN, Tree.Kind.LESS_THAN_EQUAL,
            Tree.Kind.GREATER_THAN, Tree.Kind.GREATER_THAN_EQUAL);

    private final Trees trees;
    private final CompilationUnitTree unit;
    private final Set<String> classes = new TreeSet<>();
    private final Set<String> publicNames = new TreeSet<>();
    private final Set<String> otherNames = new TreeSet<>();
    private final Map<String, Integer> fields = new TreeMap<>();
    private final Map<String, Set<String>> calls = new TreeMap<>();
    private int throwsSeen;

    private LanguageTest(Trees trees, CompilationUnitTree unit) {
        this.trees = trees;
        this.unit = unit;
    }

    public static void main(String[] args) throws IOException {
        Path file = Path.of(args.length > 0 ? args[0] : ".", "src", "main", "java", "RenvoiDesk.java");
        JavaCompiler compiler = ToolProvider.getSystemJavaCompiler();
        try (StandardJavaFileManager files = compiler.getStandardFileManager(null, null, null)) {
            JavacTask task = (JavacTask) compiler.getTask(null, files, null, List.of("-proc:none", "-Xlint:all"), null,
                    files.getJavaFileObjects(file));
            CompilationUnitTree unit = task.parse().iterator().next();
            task.analyze();
            LanguageTest test = new LanguageTest(Trees.instance(task), unit);
            test.rule("one file, no package", unit.getPackageName() == null);
            test.rule("one class in the file", unit.getTypeDecls().size() == 1);
            test.scan(unit, null);
            test.whole();
        }
        Check.finish();
    }

    private void rule(String what, boolean kept) {
        Check.due(what, kept, true);
    }

    private void at(Tree tree, int rule, String what, boolean kept) {
        long line = unit.getLineMap().getLineNumber(trees.getSourcePositions().getStartPosition(unit, tree));
        rule("rule " + rule + ", line " + line + ": " + what, kept);
    }

    // ---- what can be seen at the end alone

    private void whole() {
        rule("rule 11: some twelve classes at most: " + classes, classes.size() <= MAX_CLASSES);
        fields.forEach((name, many) -> rule("rule 11: some twenty fields at most in " + name + ": " + many, many <= MAX_FIELDS));
        otherNames.retainAll(publicNames);
        rule("rule 1: no other method bears the name of a public one: " + otherNames, otherNames.isEmpty());
        rule("rule 6: throws are seen", throwsSeen > 0);
        rule("calls are seen", calls.size() > 30);
        for (String method : calls.keySet()) {
            depth(method, List.of());
        }
    }

    /** How many calls stand open at most from this one on; none is recursion. */
    private int depth(String method, List<String> open) {
        rule("rule 8: no recursion in " + method, !open.contains(method));
        if (open.contains(method)) {
            return 0;
        }
        List<String> deeper = new java.util.ArrayList<>(open);
        deeper.add(method);
        rule("rule 11: calls go at most eight deep: " + deeper, deeper.size() <= MAX_DEPTH);
        int most = 0;
        for (String next : calls.getOrDefault(method, Set.of())) {
            most = Math.max(most, depth(next, deeper));
        }
        return most + 1;
    }

    // ---- classes, fields, methods

    @Override
    public Void visitClass(ClassTree tree, Void none) {
        String name = tree.getSimpleName().toString();
        classes.add(name);
        boolean outer = name.equals("RenvoiDesk");
        Set<Modifier> flags = tree.getModifiers().getFlags();
        at(tree, 2, name + " is a final class, static inside, of a name", flags.contains(Modifier.FINAL)
                && tree.getKind() == Tree.Kind.CLASS && !name.isEmpty() && (outer || flags.contains(Modifier.STATIC)));
        at(tree, 2, name + " extends and implements nothing", tree.getExtendsClause() == null && tree.getImplementsClause().isEmpty());
        int own = 0;
        for (Tree member : tree.getMembers()) {
            at(member, 5, "no initialiser block", !(member instanceof BlockTree));
            if (member instanceof VariableTree field) {
                Set<Modifier> how = field.getModifiers().getFlags();
                boolean fixed = how.contains(Modifier.STATIC);
                own += fixed ? 0 : 1;
                if (fixed) {
                    at(field, 5, field.getName() + " is a constant", how.contains(Modifier.FINAL)
                            && CONSTANTS.contains(field.getType().toString()) && field.getInitializer() != null);
                }
                at(field, 1, field.getName() + " is hidden, but for NONE", !outer || how.contains(Modifier.PRIVATE)
                        || field.getName().contentEquals("NONE"));
            }
        }
        fields.put(name, own);
        return super.visitClass(tree, none);
    }

    @Override
    public Void visitVariable(VariableTree tree, Void none) {
        String type = tree.getType() == null ? "var" : tree.getType().toString();
        at(tree, 3, type + " " + tree.getName(), NUMBERS.contains(type) || type.matches("Tape|Reader|Told|Roads|Deeds|Past"));
        return super.visitVariable(tree, none);
    }

    @Override
    public Void visitMethod(MethodTree tree, Void none) {
        Set<Modifier> flags = tree.getModifiers().getFlags();
        boolean constructor = tree.getName().contentEquals("<init>");
        String name = tree.getName().toString();
        if (!constructor) {
            (flags.contains(Modifier.PUBLIC) ? publicNames : otherNames).add(name);
            at(tree, 6, name + " is no equals, hashCode, toString", !name.matches("equals|hashCode|toString"));
        }
        at(tree, 11, name + " takes at most seven parameters", tree.getParameters().size() <= MAX_PARAMETERS);
        at(tree, 11, name + " is short", lines(tree) <= MAX_LINES);
        calls.computeIfAbsent(key(getCurrentPath()), method -> new TreeSet<>());
        return super.visitMethod(tree, none);
    }

    private long lines(Tree tree) {
        long end = trees.getSourcePositions().getEndPosition(unit, tree);
        long start = trees.getSourcePositions().getStartPosition(unit, tree);
        return end < 0 ? 0 : unit.getLineMap().getLineNumber(end) - unit.getLineMap().getLineNumber(start) + 1;
    }

    private String key(TreePath path) {
        Element element = trees.getElement(path);
        return element == null ? "?" : element.getEnclosingElement() + "." + element.getSimpleName();
    }

    private TreePath method() {
        TreePath path = getCurrentPath();
        while (path != null && !(path.getLeaf() instanceof MethodTree)) {
            path = path.getParentPath();
        }
        return path;
    }

    private boolean inConstructorOrField() {
        TreePath path = method();
        return path == null || ((MethodTree) path.getLeaf()).getName().contentEquals("<init>");
    }

    // ---- calls and what is made

    @Override
    public Void visitMethodInvocation(MethodInvocationTree tree, Void none) {
        String called = key(new TreePath(getCurrentPath(), tree.getMethodSelect()));
        boolean own = called.startsWith("RenvoiDesk");
        if (own) {
            TreePath from = method();
            calls.computeIfAbsent(from == null ? "fields" : key(from), method -> new TreeSet<>()).add(called);
        } else if (!called.equals("java.lang.Object.<init>")) {
            at(tree, 4, called + " is one that the class may call", LIBRARY.contains(called));
        }
        return super.visitMethodInvocation(tree, none);
    }

    @Override
    public Void visitNewClass(NewClassTree tree, Void none) {
        boolean thrown = getCurrentPath().getParentPath().getLeaf() instanceof ThrowTree;
        at(tree, 12, tree.getIdentifier() + " is made in a constructor, or thrown", thrown || inConstructorOrField());
        at(tree, 2, "no class without a name", tree.getClassBody() == null);
        return super.visitNewClass(tree, none);
    }

    @Override
    public Void visitNewArray(NewArrayTree tree, Void none) {
        at(tree, 12, "an array is made in a constructor", inConstructorOrField());
        at(tree, 3, "of one dimension", tree.getDimensions().size() == 1);
        return super.visitNewArray(tree, none);
    }

    @Override
    public Void visitThrow(ThrowTree tree, Void none) {
        throwsSeen++;
        boolean written = tree.getExpression() instanceof NewClassTree made
                && made.getIdentifier().toString().equals("NoSuchElementException")
                && made.getArguments().size() <= 1 && made.getArguments().stream().allMatch(LiteralTree.class::isInstance);
        at(tree, 6, "what the document names, with a written text", written);
        TreePath from = method();
        at(tree, 6, "thrown by the call that has it", from != null && key(from).equals("RenvoiDesk.rule"));
        return super.visitThrow(tree, none);
    }

    // ---- what is not there at all

    @Override
    public Void visitLambdaExpression(LambdaExpressionTree tree, Void none) {
        at(tree, 2, "no lambda", false);
        return null;
    }

    @Override
    public Void visitMemberReference(MemberReferenceTree tree, Void none) {
        at(tree, 2, "no method reference", false);
        return null;
    }

    @Override
    public Void visitTry(TryTree tree, Void none) {
        at(tree, 6, "no try: nothing that the machine throws is caught", false);
        return null;
    }

    @Override
    public Void visitSynchronized(SynchronizedTree tree, Void none) {
        at(tree, 6, "no synchronized", false);
        return null;
    }

    @Override
    public Void visitAssert(AssertTree tree, Void none) {
        at(tree, 6, "no assert", false);
        return null;
    }

    @Override
    public Void visitTypeCast(TypeCastTree tree, Void none) {
        at(tree, 6, "casts of numbers alone", tree.getType().toString().matches("int|long|byte"));
        return super.visitTypeCast(tree, none);
    }

    // ---- loops and arithmetic

    @Override
    public Void visitForLoop(ForLoopTree tree, Void none) {
        at(tree, 9, "a for with a bound", compares(tree.getCondition()) && !tree.getUpdate().isEmpty());
        return super.visitForLoop(tree, none);
    }

    @Override
    public Void visitWhileLoop(WhileLoopTree tree, Void none) {
        at(tree, 9, "a while with a bound", compares(tree.getCondition()));
        return super.visitWhileLoop(tree, none);
    }

    @Override
    public Void visitDoWhileLoop(DoWhileLoopTree tree, Void none) {
        at(tree, 9, "a do with a bound", compares(tree.getCondition()));
        return super.visitDoWhileLoop(tree, none);
    }

    /** A comparison that ends the loop whatever the rest of the condition says: on the way to it there is && alone. */
    private static boolean compares(ExpressionTree condition) {
        if (condition instanceof com.sun.source.tree.ParenthesizedTree in) {
            return compares(in.getExpression());
        }
        if (!(condition instanceof BinaryTree two)) {
            return false;
        }
        if (two.getKind() == Tree.Kind.CONDITIONAL_AND) {
            return compares(two.getLeftOperand()) || compares(two.getRightOperand());
        }
        return COMPARED.contains(two.getKind());
    }

    @Override
    public Void visitBinary(BinaryTree tree, Void none) {
        boolean joins = tree.getKind() == Tree.Kind.PLUS && trees.getTypeMirror(getCurrentPath()).toString().contains("String");
        at(tree, 10, "texts are not joined by +", !joins);
        boolean divides = tree.getKind() == Tree.Kind.DIVIDE || tree.getKind() == Tree.Kind.REMAINDER;
        at(tree, 7, "nothing is divided", !divides);
        return super.visitBinary(tree, none);
    }
}
