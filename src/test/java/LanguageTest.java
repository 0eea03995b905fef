import com.sun.source.tree.BinaryTree;
import com.sun.source.tree.ClassTree;
import com.sun.source.tree.CompilationUnitTree;
import com.sun.source.tree.ExpressionTree;
import com.sun.source.tree.MethodInvocationTree;
import com.sun.source.tree.MethodTree;
import com.sun.source.tree.NewArrayTree;
import com.sun.source.tree.NewClassTree;
import com.sun.source.tree.Tree;
import com.sun.source.tree.VariableTree;
import com.sun.source.util.JavacTask;
import com.sun.source.util.TreePath;
import com.sun.source.util.TreePathScanner;
import com.sun.source.util.Trees;
import java.nio.file.Path;
import java.util.ArrayDeque;
import java.util.Deque;
import java.util.EnumSet;
import java.util.HashMap;
import java.util.LinkedHashSet;
import java.util.List;
import java.util.Map;
import java.util.Set;
import javax.lang.model.element.Element;
import javax.lang.model.element.ExecutableElement;
import javax.lang.model.element.Modifier;
import javax.lang.model.element.NestingKind;
import javax.lang.model.element.TypeElement;
import javax.lang.model.type.TypeKind;
import javax.lang.model.type.TypeMirror;
import javax.tools.JavaCompiler;
import javax.tools.StandardJavaFileManager;
import javax.tools.ToolProvider;

/** The rules of LANGUAGE.md by number, read from the program's tree as javac sees it. */
final class LanguageTest extends TreePathScanner<Void, Void> {
    private static final Path PROGRAM = Path.of("src/main/java/WithTheReds.java");
    private static final Set<String> LIBRARY = Set.of("String.length", "String.charAt", "String.isEmpty",
            "String.equals", "String.indexOf", "String.substring", "String.toCharArray", "Integer.compare",
            "Integer.max", "Integer.min", "Integer.bitCount", "Integer.numberOfTrailingZeros",
            "Integer.numberOfLeadingZeros", "Long.compare", "Long.max", "Long.min", "Math.max", "Math.min", "Math.abs",
            "Math.floorDiv", "Math.floorMod", "System.arraycopy", "Arrays.copyOf", "Arrays.copyOfRange",
            "Arrays.fill");
    private static final Set<Tree.Kind> NEVER = EnumSet.of(Tree.Kind.THROW, Tree.Kind.TRY, Tree.Kind.SYNCHRONIZED,
            Tree.Kind.ASSERT, Tree.Kind.LAMBDA_EXPRESSION, Tree.Kind.MEMBER_REFERENCE, Tree.Kind.IMPORT,
            Tree.Kind.PACKAGE, Tree.Kind.SWITCH_EXPRESSION, Tree.Kind.CATCH);
    private static final Set<TypeKind> NUMBERS = EnumSet.of(TypeKind.INT, TypeKind.LONG, TypeKind.SHORT, TypeKind.BYTE,
            TypeKind.CHAR, TypeKind.BOOLEAN);
    private static final int PARAMETERS = 7, LINES = 60, DEEP = 8, CLASSES = 12, FIELDS = 20;

    private final Trees trees;
    private final CompilationUnitTree unit;
    private final Map<ExecutableElement, Set<ExecutableElement>> calls = new HashMap<>();
    private int classes;

    private LanguageTest(Trees trees, CompilationUnitTree unit) {
        this.trees = trees;
        this.unit = unit;
    }

    public static void main(String[] args) throws Exception {
        JavaCompiler javac = ToolProvider.getSystemJavaCompiler();
        try (StandardJavaFileManager files = javac.getStandardFileManager(null, null, null)) {
            JavacTask task = (JavacTask) javac.getTask(null, files, null, List.of("-proc:none"), null,
                    files.getJavaFileObjects(PROGRAM));
            CompilationUnitTree unit = task.parse().iterator().next();
            task.analyze();
            LanguageTest test = new LanguageTest(Trees.instance(task), unit);
            test.scan(unit, null);
            test.callsStaySmall();
            Due.is("10, 11: classes, beyond " + CLASSES, Math.max(0, test.classes - CLASSES), 0);
        }
        Due.end();
    }

    private void rule(String number, Tree at, boolean holds) {
        String line = holds ? "" : " in line " + line(at) + ": " + at.toString().split("\n")[0];
        Due.that("LANGUAGE.md " + number + line, holds);
    }

    private long line(Tree at) {
        return unit.getLineMap().getLineNumber(trees.getSourcePositions().getStartPosition(unit, at));
    }

    private Element element(Tree tree) {
        return trees.getElement(new TreePath(getCurrentPath(), tree));
    }

    private TypeMirror type(Tree tree) {
        return trees.getTypeMirror(new TreePath(getCurrentPath(), tree));
    }

    private static boolean isOwn(Element e) {
        Element top = e;
        while (top.getEnclosingElement() != null && top.getEnclosingElement() instanceof TypeElement) {
            top = top.getEnclosingElement();
        }
        return top.getSimpleName().contentEquals("WithTheReds");
    }

    @Override
    public Void scan(Tree tree, Void none) {
        if (tree != null) {
            rule("6 and 2: " + tree.getKind(), tree, !NEVER.contains(tree.getKind()));
        }
        return super.scan(tree, none);
    }

    @Override
    public Void visitClass(ClassTree tree, Void none) {
        TypeElement e = (TypeElement) trees.getElement(getCurrentPath());
        classes++;
        boolean isTop = e.getNestingKind() == NestingKind.TOP_LEVEL;
        Set<Modifier> modifiers = e.getModifiers();
        rule("1: the class is public and final, those inside private and static", tree, isTop
                ? modifiers.contains(Modifier.PUBLIC) && modifiers.contains(Modifier.FINAL)
                : e.getNestingKind() == NestingKind.MEMBER && modifiers.contains(Modifier.STATIC)
                        && !modifiers.contains(Modifier.PUBLIC) && !modifiers.contains(Modifier.PROTECTED));
        long fields = tree.getMembers().stream().filter(m -> m instanceof VariableTree)
                .filter(m -> !((VariableTree) m).getModifiers().getFlags().contains(Modifier.STATIC)).count();
        rule("11: " + fields + " fields", tree, fields <= FIELDS);
        rule("5: no static block", tree, tree.getMembers().stream().noneMatch(m -> m.getKind() == Tree.Kind.BLOCK));
        return super.visitClass(tree, none);
    }

    @Override
    public Void visitMethod(MethodTree tree, Void none) {
        ExecutableElement e = (ExecutableElement) trees.getElement(getCurrentPath());
        calls.computeIfAbsent(e, k -> new LinkedHashSet<>());
        rule("11: parameters", tree, tree.getParameters().size() <= PARAMETERS);
        long end = unit.getLineMap().getLineNumber(trees.getSourcePositions().getEndPosition(unit, tree));
        rule("11: a short method", tree, end - line(tree) < LINES);
        String name = tree.getName().toString();
        rule("6: no equals, hashCode, toString", tree, !Set.of("equals", "hashCode", "toString").contains(name));
        return super.visitMethod(tree, none);
    }

    @Override
    public Void visitVariable(VariableTree tree, Void none) {
        Element e = trees.getElement(getCurrentPath());
        Set<Modifier> modifiers = e.getModifiers();
        TypeMirror type = e.asType();
        if (modifiers.contains(Modifier.STATIC)) {
            rule("5: static is final", tree, modifiers.contains(Modifier.FINAL));
            boolean isRow = tree.getInitializer() instanceof NewArrayTree
                    && ((NewArrayTree) tree.getInitializer()).getInitializers() != null;
            rule("5: static is a number, a text or a row written out", tree,
                    NUMBERS.contains(type.getKind()) || type.toString().equals("java.lang.String") || isRow);
        }
        String name = type.toString().replace("[]", "");
        rule("3: " + name, tree, NUMBERS.contains(type.getKind()) || name.equals("java.lang.String")
                || name.startsWith("WithTheReds") || Set.of("int", "long", "byte", "char", "boolean").contains(name));
        rule("3: one dimension", tree, !type.toString().endsWith("[][]") || type.toString().equals("int[][]"));
        return super.visitVariable(tree, none);
    }

    private ExecutableElement caller() {
        for (TreePath path = getCurrentPath(); path != null; path = path.getParentPath()) {
            if (path.getLeaf() instanceof MethodTree) {
                return (ExecutableElement) trees.getElement(path);
            }
        }
        return null;
    }

    private boolean isInConstructorOrField() {
        ExecutableElement in = caller();
        return in == null || in.getSimpleName().contentEquals("<init>");
    }

    private void calls(Element called) {
        ExecutableElement from = caller();
        if (from != null && isOwn(called)) {
            calls.computeIfAbsent(from, k -> new LinkedHashSet<>()).add((ExecutableElement) called);
        }
    }

    @Override
    public Void visitMethodInvocation(MethodInvocationTree tree, Void none) {
        Element called = element(tree.getMethodSelect());
        calls(called);
        String name = called.getEnclosingElement().getSimpleName() + "." + called.getSimpleName();
        // A constructor's own super() is in the tree, too.
        rule("4: " + name, tree, isOwn(called) || LIBRARY.contains(name) || name.equals("Object.<init>"));
        return super.visitMethodInvocation(tree, none);
    }

    @Override
    public Void visitNewClass(NewClassTree tree, Void none) {
        Element made = element(tree);
        calls(made);
        rule("2: no class without a name", tree, tree.getClassBody() == null);
        rule("4: a class of its own", tree, isOwn(made));
        rule("12: made by a constructor alone", tree, isInConstructorOrField());
        return super.visitNewClass(tree, none);
    }

    @Override
    public Void visitNewArray(NewArrayTree tree, Void none) {
        rule("12: made by a constructor alone", tree, isInConstructorOrField());
        return super.visitNewArray(tree, none);
    }

    private boolean isObject(ExpressionTree tree) {
        TypeMirror type = type(tree);
        return type != null && (type.toString().equals("java.lang.String") || type.toString().startsWith("java."));
    }

    @Override
    public Void visitBinary(BinaryTree tree, Void none) {
        rule("10: no + of texts; 6: no == of texts", tree,
                !isObject(tree.getLeftOperand()) && !isObject(tree.getRightOperand()));
        return super.visitBinary(tree, none);
    }

    /** 8 and 11: those that call one another are private, and count as one step. */
    private void callsStaySmall() {
        int deepest = 0;
        for (ExecutableElement e : calls.keySet()) {
            int deep = deep(e, new HashMap<>());
            deepest = Math.max(deepest, deep);
            Due.that("LANGUAGE.md 11: calls of " + e + " go " + deep + " deep", deep <= DEEP);
            Due.that("LANGUAGE.md 8: " + e + " calls itself, so it is private",
                    !reached(e).contains(e) || e.getModifiers().contains(Modifier.PRIVATE));
        }
        System.out.println("calls go " + deepest + " deep");
    }

    private Set<ExecutableElement> reached(ExecutableElement from) {
        Set<ExecutableElement> seen = new LinkedHashSet<>();
        Deque<ExecutableElement> open = new ArrayDeque<>(calls.getOrDefault(from, Set.of()));
        while (!open.isEmpty()) {
            ExecutableElement e = open.pop();
            if (seen.add(e)) {
                open.addAll(calls.getOrDefault(e, Set.of()));
            }
        }
        return seen;
    }

    private int deep(ExecutableElement e, Map<ExecutableElement, Integer> known) {
        if (!known.containsKey(e)) {
            Set<ExecutableElement> circle = new LinkedHashSet<>(Set.of(e));
            reached(e).stream().filter(other -> reached(other).contains(e)).forEach(circle::add);
            int most = 0;
            for (ExecutableElement one : circle) {
                for (ExecutableElement called : calls.getOrDefault(one, Set.of())) {
                    most = circle.contains(called) ? most : Math.max(most, deep(called, known));
                }
            }
            known.put(e, most + 1);
        }
        return known.get(e);
    }
}
