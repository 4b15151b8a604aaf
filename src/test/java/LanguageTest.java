import com.sun.source.tree.AssertTree;
import com.sun.source.tree.BinaryTree;
import com.sun.source.tree.BlockTree;
import com.sun.source.tree.CatchTree;
import com.sun.source.tree.ClassTree;
import com.sun.source.tree.CompilationUnitTree;
import com.sun.source.tree.IdentifierTree;
import com.sun.source.tree.ImportTree;
import com.sun.source.tree.LambdaExpressionTree;
import com.sun.source.tree.MemberReferenceTree;
import com.sun.source.tree.MemberSelectTree;
import com.sun.source.tree.MethodInvocationTree;
import com.sun.source.tree.MethodTree;
import com.sun.source.tree.NewClassTree;
import com.sun.source.tree.SynchronizedTree;
import com.sun.source.tree.ThrowTree;
import com.sun.source.tree.Tree;
import com.sun.source.tree.TryTree;
import com.sun.source.tree.VariableTree;
import com.sun.source.util.JavacTask;
import com.sun.source.util.TreePathScanner;
import com.sun.source.util.Trees;
import java.nio.file.Path;
import java.util.ArrayList;
import java.util.HashMap;
import java.util.HashSet;
import java.util.List;
import java.util.Map;
import java.util.Set;
import java.util.TreeSet;
import javax.lang.model.element.Element;
import javax.lang.model.element.ElementKind;
import javax.lang.model.element.ExecutableElement;
import javax.lang.model.element.Modifier;
import javax.lang.model.element.TypeElement;
import javax.lang.model.element.VariableElement;
import javax.tools.JavaCompiler;
import javax.tools.StandardJavaFileManager;
import javax.tools.ToolProvider;

/** The rules of LANGUAGE.md that a look at the program's tree can settle. */
public final class LanguageTest {
    private static final Path PROGRAM = Path.of("src/main/java/OverlapBench.java");
    private static final Set<String> IMPORTS = Set.of("java.util.Arrays", "java.util.ArrayList", "java.util.List",
            "java.util.Iterator", "java.util.NoSuchElementException");
    private static final Set<String> THROWN = Set.of("IllegalStateException", "IllegalArgumentException",
            "IndexOutOfBoundsException", "ArithmeticException", "UnsupportedOperationException", "NoSuchElementException",
            "RuntimeException");
    /** What the program uses of the library; LANGUAGE.md lists more. */
    private static final Set<String> LIBRARY = Set.of("java.lang.String.length", "java.lang.String.charAt",
            "java.lang.Math.max", "java.lang.Math.min", "java.util.Arrays.fill", "java.lang.Object.<init>");
    private static final int DEEPEST = 8;
    private static final int LINES = 60;
    private static final int PARAMETERS = 7;
    private static final int CLASSES = 12;
    private static final int FIELDS = 20;

    public static void main(String[] args) throws Exception {
        JavaCompiler compiler = ToolProvider.getSystemJavaCompiler();
        try (StandardJavaFileManager files = compiler.getStandardFileManager(null, null, null)) {
            JavacTask task = (JavacTask) compiler.getTask(null, files, null, List.of("-proc:none"), null,
                    files.getJavaFileObjects(PROGRAM));
            CompilationUnitTree unit = task.parse().iterator().next();
            task.analyze();
            Look look = new Look(Trees.instance(task), unit);
            look.scan(unit, null);
            look.finish();
        }
        Check.finish();
    }

    private static final class Look extends TreePathScanner<Void, Void> {
        private final Trees trees;
        private final CompilationUnitTree unit;
        private final Map<ExecutableElement, Set<ExecutableElement>> calls = new HashMap<>();
        private final Set<String> faceNames = new HashSet<>();
        private final Set<String> hiddenNames = new TreeSet<>();
        private ExecutableElement method = null;
        private int classes = 0;

        Look(Trees trees, CompilationUnitTree unit) {
            this.trees = trees;
            this.unit = unit;
        }

        private Element element() {
            return trees.getElement(getCurrentPath());
        }

        private void refuse(String rule, Tree tree) {
            Check.due("rule " + rule + ", line " + line(trees.getSourcePositions().getStartPosition(unit, tree)), tree.toString(),
                    "not in the program");
        }

        private long line(long position) {
            return unit.getLineMap().getLineNumber(position);
        }

        @Override
        public Void visitImport(ImportTree tree, Void none) {
            Check.due("rule 4, import of " + tree.getQualifiedIdentifier(),
                    IMPORTS.contains(tree.getQualifiedIdentifier().toString()) && !tree.isStatic(), true);
            return null;
        }

        @Override
        public Void visitClass(ClassTree tree, Void none) {
            classes++;
            TypeElement type = (TypeElement) element();
            boolean inside = type.getEnclosingElement().getKind() != ElementKind.PACKAGE;
            Set<Modifier> modifiers = type.getModifiers();
            Check.due("rule 2, class " + type, inside ? modifiers.contains(Modifier.STATIC) && !modifiers.contains(Modifier.PUBLIC)
                    : modifiers.contains(Modifier.PUBLIC) && modifiers.contains(Modifier.FINAL), true);
            int fields = 0;
            for (Element each : type.getEnclosedElements()) {
                fields += each.getKind() == ElementKind.FIELD && !each.getModifiers().contains(Modifier.STATIC) ? 1 : 0;
            }
            Check.due("rule 11, fields of " + type, fields <= FIELDS, true);
            for (Tree member : tree.getMembers()) {
                if (member instanceof BlockTree) {
                    refuse("5", member);
                }
            }
            return super.visitClass(tree, none);
        }

        @Override
        public Void visitVariable(VariableTree tree, Void none) {
            VariableElement variable = (VariableElement) element();
            if (variable.getKind() == ElementKind.FIELD && variable.getModifiers().contains(Modifier.STATIC)) {
                Check.due("rule 5, constant " + variable, variable.getConstantValue() != null, true);
            }
            return super.visitVariable(tree, none);
        }

        @Override
        public Void visitMethod(MethodTree tree, Void none) {
            ExecutableElement before = method;
            method = (ExecutableElement) element();
            calls.computeIfAbsent(method, key -> new HashSet<>());
            boolean face = method.getModifiers().contains(Modifier.PUBLIC);
            if (method.getKind() == ElementKind.METHOD) {
                (face ? faceNames : hiddenNames).add(method.getSimpleName().toString());
            }
            Check.due("rule 11, parameters of " + method, method.getParameters().size() <= PARAMETERS, true);
            long start = trees.getSourcePositions().getStartPosition(unit, tree);
            long end = trees.getSourcePositions().getEndPosition(unit, tree);
            if (end > start) {
                Check.due("rule 11, lines of " + method, line(end) - line(start) < LINES, true);
            }
            super.visitMethod(tree, none);
            method = before;
            return null;
        }

        @Override
        public Void visitMethodInvocation(MethodInvocationTree tree, Void none) {
            called((ExecutableElement) element());
            return super.visitMethodInvocation(tree, none);
        }

        @Override
        public Void visitNewClass(NewClassTree tree, Void none) {
            Element made = element();
            if (!(getCurrentPath().getParentPath().getLeaf() instanceof ThrowTree)) {
                called((ExecutableElement) made);
            }
            return super.visitNewClass(tree, none);
        }

        private void called(ExecutableElement other) {
            String owner = other.getEnclosingElement().toString();
            if (owner.startsWith("OverlapBench")) {
                if (method != null) {
                    calls.get(method).add(other);
                }
            } else {
                String name = owner + "." + other.getSimpleName();
                Check.due("rule 4, use of " + name, LIBRARY.contains(name), true);
            }
        }

        @Override
        public Void visitMemberSelect(MemberSelectTree tree, Void none) {
            Element used = element();
            if (used instanceof VariableElement && !tree.getIdentifier().contentEquals("length")) {
                String owner = String.valueOf(used.getEnclosingElement());
                Check.due("rule 4, use of " + tree, owner.startsWith("OverlapBench"), true);
            }
            return super.visitMemberSelect(tree, none);
        }

        @Override
        public Void visitThrow(ThrowTree tree, Void none) {
            boolean allowed = tree.getExpression() instanceof NewClassTree made
                    && made.getIdentifier() instanceof IdentifierTree name && THROWN.contains(name.getName().toString());
            if (!allowed || method.getKind() == ElementKind.CONSTRUCTOR) {
                refuse("6", tree);
            }
            return super.visitThrow(tree, none);
        }

        @Override
        public Void visitBinary(BinaryTree tree, Void none) {
            if (tree.getKind() == Tree.Kind.PLUS && String.valueOf(trees.getTypeMirror(getCurrentPath())).contains("String")) {
                refuse("10", tree);
            }
            return super.visitBinary(tree, none);
        }

        @Override
        public Void visitTry(TryTree tree, Void none) {
            refuse("6 (the program needs no try)", tree);
            return null;
        }

        @Override
        public Void visitCatch(CatchTree tree, Void none) {
            refuse("6 (the program needs no catch)", tree);
            return null;
        }

        @Override
        public Void visitLambdaExpression(LambdaExpressionTree tree, Void none) {
            refuse("2", tree);
            return null;
        }

        @Override
        public Void visitMemberReference(MemberReferenceTree tree, Void none) {
            refuse("2", tree);
            return null;
        }

        @Override
        public Void visitSynchronized(SynchronizedTree tree, Void none) {
            refuse("6", tree);
            return null;
        }

        @Override
        public Void visitAssert(AssertTree tree, Void none) {
            refuse("6", tree);
            return null;
        }

        void finish() {
            Check.due("rule 11, classes", classes <= CLASSES, true);
            for (String name : hiddenNames) {
                Check.due("rule 1, the private " + name + " has the name of a public method", faceNames.contains(name), false);
            }
            Map<ExecutableElement, Integer> known = new HashMap<>();
            for (ExecutableElement each : calls.keySet()) {
                int depth = depth(each, known, new ArrayList<>());
                if (each.getModifiers().contains(Modifier.PUBLIC)) {
                    Check.due("rule 11, calls from " + each + " go " + depth + " deep", depth <= DEEPEST, true);
                }
            }
        }

        /** The most calls that stand open at once, this one with them. The program has no recursion. */
        private int depth(ExecutableElement start, Map<ExecutableElement, Integer> known, List<ExecutableElement> open) {
            if (open.contains(start)) {
                Check.due("rule 8, recursion", String.valueOf(start), "no recursion");
                return 0;
            }
            if (!known.containsKey(start)) {
                open.add(start);
                int deepest = 0;
                for (ExecutableElement each : calls.getOrDefault(start, Set.of())) {
                    deepest = Math.max(deepest, depth(each, known, open));
                }
                open.remove(start);
                known.put(start, deepest + 1);
            }
            return known.get(start);
        }
    }
}
