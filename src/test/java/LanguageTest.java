import com.sun.source.tree.BinaryTree;
import com.sun.source.tree.BlockTree;
import com.sun.source.tree.ClassTree;
import com.sun.source.tree.CompilationUnitTree;
import com.sun.source.tree.ExpressionTree;
import com.sun.source.tree.LambdaExpressionTree;
import com.sun.source.tree.LiteralTree;
import com.sun.source.tree.MemberReferenceTree;
import com.sun.source.tree.MethodInvocationTree;
import com.sun.source.tree.MethodTree;
import com.sun.source.tree.NewClassTree;
import com.sun.source.tree.SynchronizedTree;
import com.sun.source.tree.ThrowTree;
import com.sun.source.tree.Tree;
import com.sun.source.tree.TryTree;
import com.sun.source.tree.TypeCastTree;
import com.sun.source.tree.VariableTree;
import com.sun.source.util.JavacTask;
import com.sun.source.util.TreePath;
import com.sun.source.util.TreePathScanner;
import com.sun.source.util.Trees;
import java.io.IOException;
import java.nio.file.Path;
import java.util.ArrayList;
import java.util.LinkedHashMap;
import java.util.LinkedHashSet;
import java.util.List;
import java.util.Map;
import java.util.Set;
import javax.lang.model.element.Element;
import javax.lang.model.element.ExecutableElement;
import javax.lang.model.element.Modifier;
import javax.lang.model.element.VariableElement;
import javax.lang.model.type.ArrayType;
import javax.lang.model.type.TypeKind;
import javax.lang.model.type.TypeMirror;
import javax.tools.JavaCompiler;
import javax.tools.StandardJavaFileManager;
import javax.tools.ToolProvider;

/** The rules of LANGUAGE.md that the compiler's tree of the class shows: types, library, throws, depth of calls, sizes. */
public final class LanguageTest extends TreePathScanner<Void, Void> {
    private static final int MOST_DEEP = 8;
    private static final int MOST_PARAMETERS = 7;
    private static final int MOST_LINES = 60;
    private static final int MOST_FIELDS = 20;
    private static final int MOST_CLASSES = 12;

    private static final Map<String, Set<String>> LIBRARY = Map.of(
            "java.lang.String", Set.of("length", "charAt", "isEmpty", "equals", "indexOf", "substring", "toCharArray"),
            "java.lang.StringBuilder", Set.of("append", "charAt", "setCharAt", "setLength", "deleteCharAt", "reverse", "length", "toString"),
            "java.lang.Integer", Set.of("compare", "max", "min", "bitCount"),
            "java.lang.Long", Set.of("compare", "max", "min", "bitCount"),
            "java.lang.Math", Set.of("max", "min", "abs", "floorDiv", "floorMod"),
            "java.lang.System", Set.of("arraycopy"),
            "java.util.Arrays", Set.of("copyOf", "copyOfRange", "fill"));
    private static final Set<String> THROWN = Set.of("IllegalStateException", "IllegalArgumentException",
            "IndexOutOfBoundsException", "ArithmeticException", "UnsupportedOperationException", "NoSuchElementException",
            "RuntimeException");

    private final Trees trees;
    private final CompilationUnitTree unit;
    private final Map<ExecutableElement, Set<ExecutableElement>> calls = new LinkedHashMap<>();
    private final Set<ExecutableElement> inRing = new LinkedHashSet<>();
    private int classes = 0;

    private LanguageTest(Trees trees, CompilationUnitTree unit) {
        this.trees = trees;
        this.unit = unit;
    }

    public static void main(String[] args) throws IOException {
        Path source = Path.of(args.length > 0 ? args[0] : "src/main/java/BlockedCars.java");
        JavaCompiler compiler = ToolProvider.getSystemJavaCompiler();
        try (StandardJavaFileManager files = compiler.getStandardFileManager(null, null, null)) {
            JavacTask task = (JavacTask) compiler.getTask(null, files, null, List.of("--release", "17", "-proc:none"), null,
                    files.getJavaFileObjects(source));
            CompilationUnitTree unit = task.parse().iterator().next();
            task.analyze();
            LanguageTest test = new LanguageTest(Trees.instance(task), unit);
            test.scan(unit, null);
            test.holds("rule 11: some twelve classes", unit, test.classes <= MOST_CLASSES);
            test.depth();
        }
        Check.end("LanguageTest");
    }

    private void holds(String what, Tree at, boolean so) {
        long line = unit.getLineMap().getLineNumber(trees.getSourcePositions().getStartPosition(unit, at));
        Check.due("line " + line + ": " + what, so ? 1 : 0, 1);
    }

    private long lines(Tree tree) {
        long from = trees.getSourcePositions().getStartPosition(unit, tree);
        long to = trees.getSourcePositions().getEndPosition(unit, tree);
        return unit.getLineMap().getLineNumber(to) - unit.getLineMap().getLineNumber(from) + 1;
    }

    private Element element(Tree tree) {
        return trees.getElement(new TreePath(getCurrentPath(), tree));
    }

    private TypeMirror type(Tree tree) {
        return trees.getTypeMirror(new TreePath(getCurrentPath(), tree));
    }

    private static boolean isOwn(TypeMirror type) {
        return type.getKind() == TypeKind.DECLARED && type.toString().startsWith("BlockedCars");
    }

    private static boolean isFit(TypeMirror type) {
        if (type.getKind() == TypeKind.ARRAY) {
            TypeMirror part = ((ArrayType) type).getComponentType();
            boolean isTwo = part.getKind() == TypeKind.ARRAY && ((ArrayType) part).getComponentType().getKind().isPrimitive();
            return part.getKind().isPrimitive() || isOwn(part) || isTwo;
        }
        return type.getKind().isPrimitive() || isOwn(type) || type.toString().equals("java.lang.String")
                || type.toString().equals("java.lang.StringBuilder");
    }

    @Override
    public Void visitClass(ClassTree tree, Void none) {
        classes++;
        Set<Modifier> flags = tree.getModifiers().getFlags();
        boolean isOuter = getCurrentPath().getParentPath().getLeaf() == unit;
        boolean isInside = getCurrentPath().getParentPath().getLeaf() instanceof ClassTree && flags.contains(Modifier.STATIC)
                && !flags.contains(Modifier.PUBLIC) && !flags.contains(Modifier.PROTECTED);
        holds("rules 1, 2: a static class inside", tree, isOuter || isInside);
        int fields = 0;
        for (Tree member : tree.getMembers()) {
            holds("rule 5: no initialiser block", member, !(member instanceof BlockTree));
            if (member instanceof VariableTree) {
                fields += ((VariableTree) member).getModifiers().getFlags().contains(Modifier.STATIC) ? 0 : 1;
            }
        }
        holds("rule 11: some twenty fields", tree, fields <= MOST_FIELDS);
        return super.visitClass(tree, none);
    }

    @Override
    public Void visitVariable(VariableTree tree, Void none) {
        Element told = trees.getElement(getCurrentPath());
        holds("rule 3: the type of " + tree.getName(), tree, isFit(told.asType()));
        Set<Modifier> flags = told.getModifiers();
        if (flags.contains(Modifier.STATIC)) {
            boolean isConstant = told instanceof VariableElement && ((VariableElement) told).getConstantValue() != null;
            holds("rule 5: a constant", tree, flags.contains(Modifier.FINAL) && isConstant);
        }
        return super.visitVariable(tree, none);
    }

    @Override
    public Void visitMethod(MethodTree tree, Void none) {
        ExecutableElement method = (ExecutableElement) trees.getElement(getCurrentPath());
        calls.computeIfAbsent(method, m -> new LinkedHashSet<>());
        boolean isNothing = method.getReturnType().getKind() == TypeKind.VOID;
        holds("rule 3: what " + tree.getName() + " answers", tree, isNothing || isFit(method.getReturnType()));
        // The face itself has one of eight.
        boolean isFace = method.getModifiers().contains(Modifier.PUBLIC);
        holds("rule 11: parameters", tree, isFace || tree.getParameters().size() <= MOST_PARAMETERS);
        holds("rule 11: lines of " + tree.getName(), tree, lines(tree) <= MOST_LINES);
        return super.visitMethod(tree, none);
    }

    private ExecutableElement around() {
        for (TreePath path = getCurrentPath(); path != null; path = path.getParentPath()) {
            if (path.getLeaf() instanceof MethodTree) {
                return (ExecutableElement) trees.getElement(path);
            }
        }
        return null;
    }

    private void called(ExecutableElement method) {
        ExecutableElement from = around();
        if (from != null) {
            calls.computeIfAbsent(from, m -> new LinkedHashSet<>()).add(method);
        }
    }

    @Override
    public Void visitMethodInvocation(MethodInvocationTree tree, Void none) {
        ExecutableElement method = (ExecutableElement) element(tree);
        TypeMirror owner = method.getEnclosingElement().asType();
        String name = method.getSimpleName().toString();
        if (!name.equals("<init>")) {
            called(method);
            boolean isListed = LIBRARY.getOrDefault(owner.toString(), Set.of()).contains(name);
            holds("rule 4: " + owner + "." + name, tree, isOwn(owner) || isListed);
        }
        return super.visitMethodInvocation(tree, none);
    }

    @Override
    public Void visitNewClass(NewClassTree tree, Void none) {
        boolean isThrown = getCurrentPath().getParentPath().getLeaf() instanceof ThrowTree;
        TypeMirror made = type(tree);
        holds("rules 3, 6: new " + made, tree, isThrown || isOwn(made) || made.toString().equals("java.lang.StringBuilder"));
        holds("no anonymous class", tree, tree.getClassBody() == null);
        if (!isThrown) {
            called((ExecutableElement) element(tree));
        }
        return super.visitNewClass(tree, none);
    }

    @Override
    public Void visitThrow(ThrowTree tree, Void none) {
        boolean isPlain = false;
        if (tree.getExpression() instanceof NewClassTree) {
            NewClassTree made = (NewClassTree) tree.getExpression();
            List<? extends ExpressionTree> told = made.getArguments();
            isPlain = THROWN.contains(made.getIdentifier().toString())
                    && (told.isEmpty() || told.size() == 1 && told.get(0) instanceof LiteralTree);
        }
        holds("rule 6: a plain throw", tree, isPlain);
        holds("rule 6: in no constructor", tree, !around().getSimpleName().contentEquals("<init>"));
        return super.visitThrow(tree, none);
    }

    @Override
    public Void visitTry(TryTree tree, Void none) {
        holds("no try is needed", tree, false);
        return super.visitTry(tree, none);
    }

    @Override
    public Void visitBinary(BinaryTree tree, Void none) {
        TypeMirror left = type(tree.getLeftOperand());
        TypeMirror right = type(tree.getRightOperand());
        boolean isNumbers = left.getKind().isPrimitive() && right.getKind().isPrimitive();
        boolean isSame = tree.getKind() == Tree.Kind.EQUAL_TO || tree.getKind() == Tree.Kind.NOT_EQUAL_TO;
        boolean isOwnSame = isSame && (isOwn(left) || left.getKind() == TypeKind.NULL) && (isOwn(right) || right.getKind() == TypeKind.NULL);
        holds("rules 6, 10: " + tree.getKind() + " of " + left + " and " + right, tree, isNumbers || isOwnSame);
        return super.visitBinary(tree, none);
    }

    @Override
    public Void visitTypeCast(TypeCastTree tree, Void none) {
        holds("rule 6: a cast of numbers", tree, type(tree.getType()).getKind().isPrimitive());
        return super.visitTypeCast(tree, none);
    }

    @Override
    public Void visitLambdaExpression(LambdaExpressionTree tree, Void none) {
        holds("rule 2: no lambda", tree, false);
        return super.visitLambdaExpression(tree, none);
    }

    @Override
    public Void visitMemberReference(MemberReferenceTree tree, Void none) {
        holds("rule 2: no method reference", tree, false);
        return super.visitMemberReference(tree, none);
    }

    @Override
    public Void visitSynchronized(SynchronizedTree tree, Void none) {
        holds("rule 6: no synchronized", tree, false);
        return super.visitSynchronized(tree, none);
    }

    /** Rule 11, the library's calls counted too; and rule 8: what calls itself is private and carries its depth. */
    private void depth() {
        for (ExecutableElement method : calls.keySet()) {
            if (method.getModifiers().contains(Modifier.PUBLIC)) {
                List<ExecutableElement> way = longest(method, new ArrayList<>());
                Check.due("rule 11: at most eight deep: " + way, way.size() <= MOST_DEEP ? 1 : 0, 1);
            }
        }
        for (ExecutableElement method : inRing) {
            boolean isGuarded = method.getModifiers().contains(Modifier.PRIVATE)
                    && method.getParameters().stream().anyMatch(p -> p.getSimpleName().contentEquals("open"));
            Check.due("rule 8: " + method + " carries its depth", isGuarded ? 1 : 0, 1);
        }
    }

    /** The longest way of calls on which no method stands twice. */
    private List<ExecutableElement> longest(ExecutableElement from, List<ExecutableElement> open) {
        open.add(from);
        List<ExecutableElement> best = List.copyOf(open);
        for (ExecutableElement to : calls.getOrDefault(from, Set.of())) {
            int at = open.indexOf(to);
            if (at >= 0) {
                inRing.addAll(open.subList(at, open.size()));
                continue;
            }
            List<ExecutableElement> way = longest(to, open);
            best = way.size() > best.size() ? way : best;
        }
        open.remove(open.size() - 1);
        return best;
    }
}
