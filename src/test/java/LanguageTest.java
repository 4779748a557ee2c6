import com.sun.source.tree.AssertTree;
import com.sun.source.tree.BinaryTree;
import com.sun.source.tree.BlockTree;
import com.sun.source.tree.ClassTree;
import com.sun.source.tree.CompilationUnitTree;
import com.sun.source.tree.DoWhileLoopTree;
import com.sun.source.tree.ForLoopTree;
import com.sun.source.tree.ImportTree;
import com.sun.source.tree.InstanceOfTree;
import com.sun.source.tree.LambdaExpressionTree;
import com.sun.source.tree.LiteralTree;
import com.sun.source.tree.MemberReferenceTree;
import com.sun.source.tree.MethodInvocationTree;
import com.sun.source.tree.MethodTree;
import com.sun.source.tree.NewArrayTree;
import com.sun.source.tree.NewClassTree;
import com.sun.source.tree.SynchronizedTree;
import com.sun.source.tree.ThrowTree;
import com.sun.source.tree.Tree;
import com.sun.source.tree.TryTree;
import com.sun.source.tree.TypeCastTree;
import com.sun.source.tree.VariableTree;
import com.sun.source.tree.WhileLoopTree;
import com.sun.source.util.JavacTask;
import com.sun.source.util.SourcePositions;
import com.sun.source.util.TreePath;
import com.sun.source.util.TreePathScanner;
import com.sun.source.util.Trees;
import java.io.IOException;
import java.nio.file.Path;
import java.util.HashMap;
import java.util.HashSet;
import java.util.LinkedHashMap;
import java.util.List;
import java.util.Map;
import java.util.Set;
import javax.lang.model.element.Element;
import javax.lang.model.element.ElementKind;
import javax.lang.model.element.ExecutableElement;
import javax.lang.model.element.Modifier;
import javax.lang.model.element.TypeElement;
import javax.lang.model.type.TypeMirror;
import javax.tools.JavaCompiler;
import javax.tools.StandardJavaFileManager;
import javax.tools.ToolProvider;

/** Holds src/main/java/OneHand.java against what ../shared/LANGUAGE.md leaves of the language. */
public final class LanguageTest extends TreePathScanner<Void, Void> {
    private static final Path FILE = Path.of("src/main/java/OneHand.java");
    private static final Set<String> LIBRARY = Set.of("Math.max", "Math.min", "Math.abs", "Long.bitCount",
            "String.charAt", "Object.<init>", "IllegalArgumentException.<init>", "IllegalStateException.<init>",
            "IndexOutOfBoundsException.<init>", "NoSuchElementException.<init>");
    private static final Set<String> TYPES = Set.of("int", "long", "boolean", "byte", "short", "char", "int[]",
            "long[]", "boolean[]", "java.lang.String");
    private static final int MOST_DEEP = 8;

    private final Trees trees;
    private final SourcePositions positions;
    private final CompilationUnitTree unit;
    private final Map<String, Set<String>> calls = new LinkedHashMap<>();
    private final Set<String> publicNames = new HashSet<>();
    private final Set<String> privateNames = new HashSet<>();
    private int classes = 0;
    private int wrong = 0;

    private LanguageTest(JavacTask task, CompilationUnitTree unit) {
        trees = Trees.instance(task);
        positions = trees.getSourcePositions();
        this.unit = unit;
    }

    public static void main(String[] args) throws IOException {
        JavaCompiler compiler = ToolProvider.getSystemJavaCompiler();
        try (StandardJavaFileManager files = compiler.getStandardFileManager(null, null, null)) {
            JavacTask task = (JavacTask) compiler.getTask(null, files, null, List.of("-proc:none"), null,
                    files.getJavaFileObjects(FILE));
            CompilationUnitTree unit = task.parse().iterator().next();
            task.analyze();
            LanguageTest test = new LanguageTest(task, unit);
            test.scan(unit, null);
            test.names();
            test.depths();
            System.out.println(FILE + ": " + test.wrong + " places outside the language");
            System.exit(test.wrong == 0 ? 0 : 1);
        }
    }

    private void outside(int rule, Tree tree, String what) {
        wrong++;
        long line = tree == null ? 0 : unit.getLineMap().getLineNumber(positions.getStartPosition(unit, tree));
        System.out.println("rule " + rule + ", line " + line + ": " + what);
    }

    private static String name(ExecutableElement method) {
        return method.getEnclosingElement().getSimpleName() + "." + method.getSimpleName();
    }

    private boolean isOwn(Element element) {
        for (Element e = element; e != null; e = e.getEnclosingElement()) {
            if (e.getSimpleName().contentEquals("OneHand")) {
                return true;
            }
        }
        return false;
    }

    // ---- what the tree holds

    @Override
    public Void visitCompilationUnit(CompilationUnitTree tree, Void none) {
        if (tree.getPackage() != null) {
            outside(0, tree, "a package line");
        }
        return super.visitCompilationUnit(tree, none);
    }

    @Override
    public Void visitImport(ImportTree tree, Void none) {
        if (!tree.getQualifiedIdentifier().toString().equals("java.util.NoSuchElementException")) {
            outside(4, tree, "an import");
        }
        return super.visitImport(tree, none);
    }

    @Override
    public Void visitClass(ClassTree tree, Void none) {
        classes++;
        Element element = trees.getElement(getCurrentPath());
        boolean inside = element.getEnclosingElement().getKind() != ElementKind.PACKAGE;
        if (inside && (element.getModifiers().contains(Modifier.PUBLIC)
                || !element.getModifiers().contains(Modifier.STATIC))) {
            outside(1, tree, "a class inside that is public or not static");
        }
        long fields = element.getEnclosedElements().stream().filter(e -> e.getKind() == ElementKind.FIELD
                && !e.getModifiers().contains(Modifier.STATIC)).count();
        if (fields > 20 || classes > 12) {
            outside(11, tree, "too many fields, or too many classes");
        }
        for (Element e : element.getEnclosedElements()) {
            boolean open = !e.getModifiers().contains(Modifier.PRIVATE);
            if (!inside && open && !e.getModifiers().contains(Modifier.PUBLIC)) {
                outside(1, tree, e + " is neither private nor of the face");
            }
        }
        return super.visitClass(tree, none);
    }

    @Override
    public Void visitMethod(MethodTree tree, Void none) {
        ExecutableElement method = (ExecutableElement) trees.getElement(getCurrentPath());
        calls.putIfAbsent(name(method), new HashSet<>());
        if (method.getModifiers().contains(Modifier.PUBLIC)) {
            publicNames.add(method.getSimpleName().toString());
        } else if (method.getKind() == ElementKind.METHOD) {
            privateNames.add(method.getSimpleName().toString());
        }
        long first = unit.getLineMap().getLineNumber(positions.getStartPosition(unit, tree));
        long last = unit.getLineMap().getLineNumber(Math.max(0, positions.getEndPosition(unit, tree)));
        if (last - first > 60 || tree.getParameters().size() > 7) {
            outside(11, tree, name(method) + " is too long, or takes too much");
        }
        return super.visitMethod(tree, none);
    }

    @Override
    public Void visitVariable(VariableTree tree, Void none) {
        Element element = trees.getElement(getCurrentPath());
        Set<Modifier> has = element.getModifiers();
        String type = element.asType().toString();
        if (has.contains(Modifier.STATIC) && (!has.contains(Modifier.FINAL) || tree.getInitializer() == null)) {
            outside(5, tree, "a static field that changes");
        }
        if (!TYPES.contains(type) && !type.startsWith("OneHand.")) {
            outside(3, tree, "type " + type);
        }
        return super.visitVariable(tree, none);
    }

    private void called(Tree tree, Element element) {
        if (!(element instanceof ExecutableElement method)) {
            outside(4, tree, "an unknown call");
            return;
        }
        boolean own = isOwn(method);
        if (!own && !LIBRARY.contains(name(method))) {
            outside(4, tree, name(method));
        }
        TreePath path = getCurrentPath();
        while (path != null && path.getLeaf().getKind() != Tree.Kind.METHOD) {
            path = path.getParentPath();
        }
        if (own && path != null) {
            calls.computeIfAbsent(name((ExecutableElement) trees.getElement(path)), k -> new HashSet<>())
                    .add(name(method));
        }
    }

    @Override
    public Void visitMethodInvocation(MethodInvocationTree tree, Void none) {
        called(tree, trees.getElement(getCurrentPath()));
        return super.visitMethodInvocation(tree, none);
    }

    @Override
    public Void visitNewClass(NewClassTree tree, Void none) {
        called(tree, trees.getElement(getCurrentPath()));
        if (isInCall() && isOwn(trees.getElement(getCurrentPath()))) {
            outside(12, tree, "a call makes an object");
        }
        return super.visitNewClass(tree, none);
    }

    @Override
    public Void visitNewArray(NewArrayTree tree, Void none) {
        if (isInCall()) {
            outside(12, tree, "a call makes an array");
        }
        return super.visitNewArray(tree, none);
    }

    /** All but constructors, and what stands beside fields. */
    private boolean isInCall() {
        for (TreePath path = getCurrentPath(); path != null; path = path.getParentPath()) {
            if (path.getLeaf() instanceof MethodTree method) {
                return method.getReturnType() != null;
            }
        }
        return false;
    }

    @Override
    public Void visitBlock(BlockTree tree, Void none) {
        if (getCurrentPath().getParentPath().getLeaf() instanceof ClassTree) {
            outside(5, tree, "a block that initialises");
        }
        return super.visitBlock(tree, none);
    }

    @Override
    public Void visitLiteral(LiteralTree tree, Void none) {
        Object value = tree.getValue();
        boolean sign = value instanceof String || value instanceof Character;
        if (sign && !String.valueOf(value).chars().allMatch(c -> c >= 1 && c <= 127)) {
            outside(4, tree, "a sign that is not 1 to 127");
        }
        return super.visitLiteral(tree, none);
    }

    @Override
    public Void visitTypeCast(TypeCastTree tree, Void none) {
        if (!trees.getTypeMirror(getCurrentPath()).getKind().isPrimitive()) {
            outside(6, tree, "a cast to a class");
        }
        return super.visitTypeCast(tree, none);
    }

    @Override
    public Void visitInstanceOf(InstanceOfTree tree, Void none) {
        outside(6, tree, "an instanceof, whose test is not looked for here");
        return super.visitInstanceOf(tree, none);
    }

    @Override
    public Void visitThrow(ThrowTree tree, Void none) {
        boolean written = tree.getExpression() instanceof NewClassTree made && made.getArguments().size() <= 1
                && made.getArguments().stream().allMatch(a -> a.getKind() == Tree.Kind.STRING_LITERAL);
        if (!written) {
            outside(6, tree, "a throw of something else");
        }
        for (TreePath path = getCurrentPath(); path != null; path = path.getParentPath()) {
            if (path.getLeaf() instanceof MethodTree method && method.getReturnType() == null) {
                outside(6, tree, "a throw in a constructor");
            }
        }
        return super.visitThrow(tree, none);
    }

    @Override
    public Void visitBinary(BinaryTree tree, Void none) {
        TypeMirror type = trees.getTypeMirror(getCurrentPath());
        if (type.toString().contains("String")) {
            outside(10, tree, "texts joined by +");
        }
        return super.visitBinary(tree, none);
    }

    @Override
    public Void visitForLoop(ForLoopTree tree, Void none) {
        if (tree.getCondition() == null || tree.getUpdate().isEmpty()) {
            outside(9, tree, "a loop without an end");
        }
        return super.visitForLoop(tree, none);
    }

    @Override
    public Void visitWhileLoop(WhileLoopTree tree, Void none) {
        outside(9, tree, "a while, whose end is not looked for here");
        return super.visitWhileLoop(tree, none);
    }

    @Override
    public Void visitDoWhileLoop(DoWhileLoopTree tree, Void none) {
        outside(9, tree, "a do, whose end is not looked for here");
        return super.visitDoWhileLoop(tree, none);
    }

    @Override
    public Void visitTry(TryTree tree, Void none) {
        outside(6, tree, "a try");
        return super.visitTry(tree, none);
    }

    @Override
    public Void visitLambdaExpression(LambdaExpressionTree tree, Void none) {
        outside(2, tree, "a lambda");
        return super.visitLambdaExpression(tree, none);
    }

    @Override
    public Void visitMemberReference(MemberReferenceTree tree, Void none) {
        outside(2, tree, "a method reference");
        return super.visitMemberReference(tree, none);
    }

    @Override
    public Void visitAssert(AssertTree tree, Void none) {
        outside(6, tree, "an assert");
        return super.visitAssert(tree, none);
    }

    @Override
    public Void visitSynchronized(SynchronizedTree tree, Void none) {
        outside(6, tree, "a synchronized");
        return super.visitSynchronized(tree, none);
    }

    // ---- what the whole file holds

    private void names() {
        for (String name : privateNames) {
            if (publicNames.contains(name)) {
                outside(1, null, name + " is of the face and of a method behind it");
            }
        }
    }

    /** How deep calls go below each method, all methods that call one another in a ring taken as one. */
    private void depths() {
        Map<String, Integer> known = new HashMap<>();
        int deepest = 0;
        for (String method : calls.keySet()) {
            deepest = Math.max(deepest, depth(method, known));
        }
        if (deepest > MOST_DEEP) {
            outside(11, null, "calls go " + deepest + " deep");
        }
    }

    private int depth(String method, Map<String, Integer> known) {
        Integer before = known.get(method);
        if (before != null) {
            return before;
        }
        Set<String> ring = new HashSet<>();
        for (String other : reached(method)) {
            if (reached(other).contains(method)) {
                ring.add(other);
            }
        }
        ring.add(method);
        int below = 0;
        for (String one : ring) {
            for (String next : calls.getOrDefault(one, Set.of())) {
                if (!ring.contains(next)) {
                    below = Math.max(below, depth(next, known));
                }
            }
        }
        for (String one : ring) {
            known.put(one, below + 1);
        }
        return below + 1;
    }

    private Set<String> reached(String method) {
        Set<String> found = new HashSet<>();
        List<String> next = List.of(method);
        while (!next.isEmpty()) {
            Set<String> more = new HashSet<>();
            for (String one : next) {
                for (String called : calls.getOrDefault(one, Set.of())) {
                    if (found.add(called)) {
                        more.add(called);
                    }
                }
            }
            next = List.copyOf(more);
        }
        return found;
    }
}
