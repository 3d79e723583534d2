import com.sun.source.tree.BinaryTree;
import com.sun.source.tree.CatchTree;
import com.sun.source.tree.ClassTree;
import com.sun.source.tree.CompilationUnitTree;
import com.sun.source.tree.CompoundAssignmentTree;
import com.sun.source.tree.LambdaExpressionTree;
import com.sun.source.tree.LineMap;
import com.sun.source.tree.MemberReferenceTree;
import com.sun.source.tree.MethodInvocationTree;
import com.sun.source.tree.MethodTree;
import com.sun.source.tree.NewClassTree;
import com.sun.source.tree.SynchronizedTree;
import com.sun.source.tree.ThrowTree;
import com.sun.source.tree.Tree;
import com.sun.source.tree.TryTree;
import com.sun.source.tree.VariableTree;
import com.sun.source.util.JavacTask;
import com.sun.source.util.SourcePositions;
import com.sun.source.util.TreePath;
import com.sun.source.util.TreePathScanner;
import com.sun.source.util.Trees;
import java.io.IOException;
import java.nio.file.Path;
import java.util.ArrayDeque;
import java.util.Collections;
import java.util.Deque;
import java.util.Map;
import java.util.Set;
import java.util.TreeMap;
import java.util.TreeSet;
import javax.lang.model.element.Element;
import javax.lang.model.element.Modifier;
import javax.lang.model.type.TypeMirror;
import javax.tools.JavaCompiler;
import javax.tools.StandardJavaFileManager;
import javax.tools.ToolProvider;

/** The rules of ../shared/LANGUAGE.md that can be seen in the program's text, by their numbers. */
public final class LanguageTest {
    private static final Path PROGRAM = Path.of("src/main/java/OldFences.java");
    private static final int MOST_CLASSES = 12;
    private static final int MOST_FIELDS = 20;
    private static final int MOST_LINES = 60;
    private static final int MOST_PARAMETERS = 7;
    private static final int MOST_DEEP = 8;
    /** Of the library all that is called, each allowed by rule 4 or 6. */
    private static final Set<String> LIBRARY = Set.of("Math.abs", "Math.max", "Math.min", "String.charAt",
            "String.length", "System.arraycopy", "Arrays.copyOf", "Arrays.fill");
    private static final Set<String> EXCEPTIONS = Set.of("IllegalStateException", "IllegalArgumentException",
            "IndexOutOfBoundsException", "ArithmeticException", "UnsupportedOperationException",
            "NoSuchElementException", "RuntimeException");
    /** Rule 8: these call one another, with the depth as an argument. */
    private static final Set<String> RECURSIVE = Set.of("LawReader.readsCondition", "LawReader.readsAtom");

    public static void main(String[] args) throws IOException {
        JavaCompiler compiler = ToolProvider.getSystemJavaCompiler();
        try (StandardJavaFileManager files = compiler.getStandardFileManager(null, null, null)) {
            JavacTask task = (JavacTask) compiler.getTask(null, files, null, null, null,
                    files.getJavaFileObjects(PROGRAM));
            Iterable<? extends CompilationUnitTree> units = task.parse();
            task.analyze();
            for (CompilationUnitTree unit : units) {
                Scan scan = new Scan(Trees.instance(task), unit);
                scan.scan(unit, null);
                dueCalls(scan.calls);
                Kit.due("rule 11: " + scan.classes + " classes", scan.classes <= MOST_CLASSES, true);
            }
        }
        Kit.close("LanguageTest");
    }

    private static void dueCalls(Map<String, Set<String>> calls) {
        for (Map.Entry<String, Set<String>> entry : calls.entrySet()) {
            for (String called : entry.getValue()) {
                boolean isKnown = calls.containsKey(called) || LIBRARY.contains(called);
                Kit.due("rule 4: " + entry.getKey() + " calls " + called, isKnown, true);
            }
        }
        for (String method : calls.keySet()) {
            int deep = depth(method, calls, new ArrayDeque<>());
            Kit.due("rule 11: " + method + " goes " + deep + " deep", deep <= MOST_DEEP, true);
        }
    }

    /** How many methods of the program stand open at once below and with this one, a recursion counted once. */
    private static int depth(String method, Map<String, Set<String>> calls, Deque<String> open) {
        if (open.contains(method)) {
            Kit.due("rule 8: " + method + " is a recursion that carries its depth", RECURSIVE.contains(method), true);
            return 0;
        }
        open.push(method);
        int deepest = 0;
        for (String called : calls.getOrDefault(method, Collections.emptySet())) {
            if (calls.containsKey(called)) {
                deepest = Math.max(deepest, depth(called, calls, open));
            }
        }
        open.pop();
        return deepest + 1;
    }

    private static final class Scan extends TreePathScanner<Void, Void> {
        private final Trees trees;
        private final CompilationUnitTree unit;
        private final SourcePositions positions;
        private final LineMap lines;
        /** Of each method of the program what it calls. */
        final Map<String, Set<String>> calls = new TreeMap<>();
        int classes = 0;
        private String inClass = "";
        private String inMethod = "";

        Scan(Trees trees, CompilationUnitTree unit) {
            this.trees = trees;
            this.unit = unit;
            this.positions = trees.getSourcePositions();
            this.lines = unit.getLineMap();
        }

        private long line(long position) {
            return lines.getLineNumber(position);
        }

        private void refuse(String rule, Tree tree) {
            Kit.fail("rule " + rule + ", line " + line(positions.getStartPosition(unit, tree)) + ": " + tree);
        }

        private String typeOf(Tree tree) {
            TypeMirror type = trees.getTypeMirror(new TreePath(getCurrentPath(), tree));
            return type == null ? "" : type.toString();
        }

        @Override
        public Void visitClass(ClassTree tree, Void none) {
            classes++;
            int fields = 0;
            for (Tree member : tree.getMembers()) {
                boolean isField = member instanceof VariableTree;
                boolean isStatic = isField
                        && ((VariableTree) member).getModifiers().getFlags().contains(Modifier.STATIC);
                fields += isField && !isStatic ? 1 : 0;
                if (isStatic && !((VariableTree) member).getModifiers().getFlags().contains(Modifier.FINAL)) {
                    refuse("5: a static field is final", member);
                }
                if (member.getKind() == Tree.Kind.BLOCK) {
                    refuse("5: no initialiser block", member);
                }
            }
            Kit.due("rule 11: " + tree.getSimpleName() + " has " + fields + " fields", fields <= MOST_FIELDS, true);
            String was = inClass;
            inClass = tree.getSimpleName().toString();
            super.visitClass(tree, none);
            inClass = was;
            return null;
        }

        @Override
        public Void visitMethod(MethodTree tree, Void none) {
            inMethod = inClass + "." + tree.getName();
            calls.putIfAbsent(inMethod, new TreeSet<>());
            long from = line(positions.getStartPosition(unit, tree));
            long to = line(positions.getEndPosition(unit, tree));
            Kit.due("rule 11: lines of " + inMethod, to - from + 1 <= MOST_LINES, true);
            Kit.due("rule 11: parameters of " + inMethod, tree.getParameters().size() <= MOST_PARAMETERS, true);
            return super.visitMethod(tree, none);
        }

        @Override
        public Void visitMethodInvocation(MethodInvocationTree tree, Void none) {
            Element called = trees.getElement(getCurrentPath());
            if (!called.getSimpleName().contentEquals("<init>")) {
                calls.computeIfAbsent(inMethod, m -> new TreeSet<>())
                        .add(called.getEnclosingElement().getSimpleName() + "." + called.getSimpleName());
            }
            return super.visitMethodInvocation(tree, none);
        }

        @Override
        public Void visitThrow(ThrowTree tree, Void none) {
            boolean isAllowed = tree.getExpression() instanceof NewClassTree made
                    && EXCEPTIONS.contains(made.getIdentifier().toString());
            if (!isAllowed || inMethod.endsWith("<init>")) {
                refuse("6", tree);
            }
            return super.visitThrow(tree, none);
        }

        @Override
        public Void visitTry(TryTree tree, Void none) {
            refuse("6: the program catches nothing", tree);
            return super.visitTry(tree, none);
        }

        @Override
        public Void visitCatch(CatchTree tree, Void none) {
            refuse("6: the program catches nothing", tree);
            return super.visitCatch(tree, none);
        }

        @Override
        public Void visitSynchronized(SynchronizedTree tree, Void none) {
            refuse("6", tree);
            return super.visitSynchronized(tree, none);
        }

        @Override
        public Void visitLambdaExpression(LambdaExpressionTree tree, Void none) {
            refuse("2", tree);
            return super.visitLambdaExpression(tree, none);
        }

        @Override
        public Void visitMemberReference(MemberReferenceTree tree, Void none) {
            refuse("2", tree);
            return super.visitMemberReference(tree, none);
        }

        @Override
        public Void visitBinary(BinaryTree tree, Void none) {
            boolean isBitwise = switch (tree.getKind()) {
                case AND, OR, XOR -> true;
                default -> false;
            };
            String type = typeOf(tree.getLeftOperand());
            boolean isText = (type + typeOf(tree.getRightOperand())).contains("java.lang.String");
            if (isText || isBitwise && type.equals("boolean")) {
                refuse("10", tree);
            }
            return super.visitBinary(tree, none);
        }

        @Override
        public Void visitCompoundAssignment(CompoundAssignmentTree tree, Void none) {
            if (!typeOf(tree.getVariable()).equals("int") && !typeOf(tree.getVariable()).equals("long")) {
                refuse("10", tree);
            }
            return super.visitCompoundAssignment(tree, none);
        }
    }
}
