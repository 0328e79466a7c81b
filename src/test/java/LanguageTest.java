import com.sun.source.tree.BinaryTree;
import com.sun.source.tree.ClassTree;
import com.sun.source.tree.CompilationUnitTree;
import com.sun.source.tree.DoWhileLoopTree;
import com.sun.source.tree.ExpressionTree;
import com.sun.source.tree.ForLoopTree;
import com.sun.source.tree.MethodInvocationTree;
import com.sun.source.tree.MethodTree;
import com.sun.source.tree.NewArrayTree;
import com.sun.source.tree.NewClassTree;
import com.sun.source.tree.Tree;
import com.sun.source.tree.TypeCastTree;
import com.sun.source.tree.VariableTree;
import com.sun.source.tree.WhileLoopTree;
import com.sun.source.util.JavacTask;
import com.sun.source.util.TreePath;
import com.sun.source.util.TreePathScanner;
import com.sun.source.util.TreeScanner;
import com.sun.source.util.Trees;
import java.io.IOException;
import java.nio.charset.StandardCharsets;
import java.nio.file.Files;
import java.nio.file.Path;
import java.util.HashMap;
import java.util.List;
import java.util.Map;
import java.util.Set;
import java.util.TreeMap;
import java.util.TreeSet;
import javax.lang.model.element.Element;
import javax.lang.model.element.ElementKind;
import javax.lang.model.element.ExecutableElement;
import javax.lang.model.element.Modifier;
import javax.tools.JavaCompiler;
import javax.tools.StandardJavaFileManager;
import javax.tools.ToolProvider;

/** The rules of LANGUAGE.md that can be seen in the source, as the compiler itself reads it. */
public final class LanguageTest {
    private static final Check check = new Check("LanguageTest");
    private static final Path SOURCE = Path.of("src/main/java/RoundRows.java");

    private static final int DEEPEST = 8;
    private static final int MOST_LINES = 60;
    private static final int MOST_PARAMETERS = 7;
    private static final int MOST_CLASSES = 12;

    private static final Set<Tree.Kind> FORBIDDEN = Set.of(
        Tree.Kind.THROW, Tree.Kind.TRY, Tree.Kind.CATCH, Tree.Kind.SYNCHRONIZED, Tree.Kind.ASSERT,
        Tree.Kind.LAMBDA_EXPRESSION, Tree.Kind.MEMBER_REFERENCE, Tree.Kind.IMPORT, Tree.Kind.PACKAGE,
        Tree.Kind.ANNOTATION, Tree.Kind.SWITCH_EXPRESSION, Tree.Kind.YIELD, Tree.Kind.STRING_LITERAL);

    private static final Set<String> LIBRARY = Set.of(
        "java.lang.Math.max", "java.lang.Math.min", "java.lang.Math.abs", "java.lang.Long.compare",
        "java.lang.Integer.bitCount");

    private static final Set<String> TYPES = Set.of("int", "long", "boolean", "int[]", "long[]", "int[][]");

    /** What each method calls, its name told with its class. */
    private static final Map<String, Set<String>> calls = new TreeMap<>();

    public static void main(String[] args) throws IOException {
        signs(Files.readString(SOURCE, StandardCharsets.ISO_8859_1));
        JavaCompiler compiler = ToolProvider.getSystemJavaCompiler();
        check.holds("java has javac beside it", compiler != null);
        if (compiler != null) {
            read(compiler);
        }
        depths();
        check.end();
    }

    private static void read(JavaCompiler compiler) throws IOException {
        try (StandardJavaFileManager files = compiler.getStandardFileManager(null, null, null)) {
            JavacTask task = (JavacTask) compiler.getTask(null, files, null, List.of("-proc:none"), null,
                files.getJavaFileObjects(SOURCE));
            CompilationUnitTree unit = task.parse().iterator().next();
            task.analyze();
            new Rules(Trees.instance(task), unit).scan(unit, null);
        }
    }

    private static void signs(String source) {
        for (int i = 0; i < source.length(); i++) {
            char sign = source.charAt(i);
            if (sign != '\n' && (sign < 32 || sign > 126)) {
                check.holds("sign " + (int) sign + " at " + i, false);
            }
        }
    }

    /** Rules 8 and 11: nothing calls itself, and calls, those of the library counted, go eight deep at most. */
    private static void depths() {
        Map<String, Integer> known = new HashMap<>();
        for (String method : calls.keySet()) {
            int depth = depth(method, known, new TreeSet<>());
            check.holds(method + " goes " + depth + " deep", depth <= DEEPEST);
        }
        check.holds("methods were seen", calls.size() > 60);
        check.holds("calls were seen", known.getOrDefault("RoundRows.share", 0) > 3);
    }

    private static int depth(String method, Map<String, Integer> known, Set<String> open) {
        if (known.containsKey(method)) {
            return known.get(method);
        }
        check.holds(method + " does not call itself", !open.contains(method));
        if (!open.add(method)) {
            return 1;
        }
        int deepest = 0;
        for (String called : calls.getOrDefault(method, Set.of())) {
            deepest = Math.max(deepest, depth(called, known, open));
        }
        open.remove(method);
        known.put(method, deepest + 1);
        return deepest + 1;
    }

    /** Looks at every part of the source, with the method that it stands in. */
    private static final class Rules extends TreePathScanner<Void, Void> {
        private final Trees trees;
        private final CompilationUnitTree unit;
        private String method = "";
        private boolean making = false;
        private int classes = 0;

        Rules(Trees trees, CompilationUnitTree unit) {
            this.trees = trees;
            this.unit = unit;
        }

        @Override
        public Void visitCompilationUnit(CompilationUnitTree node, Void none) {
            super.visitCompilationUnit(node, none);
            check.holds(classes + " classes", classes > 1 && classes <= MOST_CLASSES);
            return null;
        }

        @Override
        public Void scan(Tree node, Void none) {
            if (node != null) {
                check.holds(node.getKind() + " in " + method, !FORBIDDEN.contains(node.getKind()));
            }
            return super.scan(node, none);
        }

        @Override
        public Void visitClass(ClassTree node, Void none) {
            classes++;
            boolean outer = getCurrentPath().getParentPath().getLeaf() == unit;
            Set<Modifier> is = node.getModifiers().getFlags();
            check.holds(node.getSimpleName() + " is static and not public", outer
                || method.isEmpty() && is.contains(Modifier.STATIC) && !is.contains(Modifier.PUBLIC)
                && !is.contains(Modifier.PROTECTED));
            for (Tree member : node.getMembers()) {
                check.holds("no block beside methods in " + node.getSimpleName(), member.getKind() != Tree.Kind.BLOCK);
            }
            return super.visitClass(node, none);
        }

        @Override
        public Void visitMethod(MethodTree node, Void none) {
            method = named(trees.getElement(getCurrentPath()));
            making = node.getReturnType() == null;
            calls.putIfAbsent(method, new TreeSet<>());
            check.holds(method + " has seven parameters at most", node.getParameters().size() <= MOST_PARAMETERS);
            check.holds(method + " is short", linesOf(node) <= MOST_LINES);
            check.holds(method + " throws nothing", node.getThrows().isEmpty());
            super.visitMethod(node, none);
            method = "";
            making = false;
            return null;
        }

        @Override
        public Void visitVariable(VariableTree node, Void none) {
            Element variable = trees.getElement(getCurrentPath());
            String type = variable.asType().toString();
            check.holds(type + " " + node.getName(), TYPES.contains(type) || type.startsWith("RoundRows."));
            Set<Modifier> is = node.getModifiers().getFlags();
            check.holds(node.getName() + " is final, if static",
                !is.contains(Modifier.STATIC) || is.contains(Modifier.FINAL));
            return super.visitVariable(node, none);
        }

        @Override
        public Void visitMethodInvocation(MethodInvocationTree node, Void none) {
            Element called = trees.getElement(new TreePath(getCurrentPath(), node.getMethodSelect()));
            String name = named(called);
            boolean parent = name.equals("java.lang.Object.<init>");
            check.holds("the call of " + name, parent || name.startsWith("RoundRows.") || LIBRARY.contains(name));
            if (!parent) {
                calls.computeIfAbsent(method, key -> new TreeSet<>()).add(name);
            }
            return super.visitMethodInvocation(node, none);
        }

        @Override
        public Void visitTypeCast(TypeCastTree node, Void none) {
            check.holds("the cast to " + node.getType(), node.getType().getKind() == Tree.Kind.PRIMITIVE_TYPE);
            return super.visitTypeCast(node, none);
        }

        @Override
        public Void visitNewClass(NewClassTree node, Void none) {
            check.holds(method + " makes no object", making || method.isEmpty());
            return super.visitNewClass(node, none);
        }

        @Override
        public Void visitNewArray(NewArrayTree node, Void none) {
            check.holds(method + " makes no array", making || method.isEmpty());
            return super.visitNewArray(node, none);
        }

        @Override
        public Void visitForLoop(ForLoopTree node, Void none) {
            bounded(node.getCondition());
            return super.visitForLoop(node, none);
        }

        @Override
        public Void visitWhileLoop(WhileLoopTree node, Void none) {
            bounded(node.getCondition());
            return super.visitWhileLoop(node, none);
        }

        @Override
        public Void visitDoWhileLoop(DoWhileLoopTree node, Void none) {
            bounded(node.getCondition());
            return super.visitDoWhileLoop(node, none);
        }

        /** Rule 9, as far as it can be seen here: one of the things that must all hold is a counter's bound. */
        private void bounded(ExpressionTree condition) {
            boolean[] seen = {false};
            new TreeScanner<Void, Void>() {
                @Override
                public Void visitBinary(BinaryTree node, Void none) {
                    switch (node.getKind()) {
                        case LESS_THAN:
                        case LESS_THAN_EQUAL:
                        case GREATER_THAN:
                        case GREATER_THAN_EQUAL:
                            seen[0] = true;
                            return null;
                        case CONDITIONAL_AND:
                            return super.visitBinary(node, none);
                        default:
                            return null;
                    }
                }
            }.scan(condition, null);
            check.holds("a loop in " + method + " has a bound: " + condition, seen[0]);
        }

        private long linesOf(MethodTree node) {
            long from = trees.getSourcePositions().getStartPosition(unit, node);
            long to = trees.getSourcePositions().getEndPosition(unit, node);
            return unit.getLineMap().getLineNumber(to) - unit.getLineMap().getLineNumber(from) + 1;
        }

        /** Methods that share a name within one class are taken as one; the class has none such. */
        private static String named(Element element) {
            boolean callable = element instanceof ExecutableElement;
            check.holds(element + " is a method", callable && element.getKind() != ElementKind.STATIC_INIT);
            return element.getEnclosingElement() + "." + element.getSimpleName();
        }
    }
}
