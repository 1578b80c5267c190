import com.sun.source.tree.AnnotationTree;
import com.sun.source.tree.AssertTree;
import com.sun.source.tree.BinaryTree;
import com.sun.source.tree.BlockTree;
import com.sun.source.tree.ClassTree;
import com.sun.source.tree.CompilationUnitTree;
import com.sun.source.tree.ImportTree;
import com.sun.source.tree.LambdaExpressionTree;
import com.sun.source.tree.MemberReferenceTree;
import com.sun.source.tree.MethodInvocationTree;
import com.sun.source.tree.MethodTree;
import com.sun.source.tree.NewArrayTree;
import com.sun.source.tree.NewClassTree;
import com.sun.source.tree.SynchronizedTree;
import com.sun.source.tree.ThrowTree;
import com.sun.source.tree.Tree;
import com.sun.source.tree.TryTree;
import com.sun.source.tree.VariableTree;
import com.sun.source.util.JavacTask;
import com.sun.source.util.TreePathScanner;
import com.sun.source.util.Trees;
import java.io.IOException;
import java.nio.file.Path;
import java.util.ArrayList;
import java.util.LinkedHashMap;
import java.util.LinkedHashSet;
import java.util.List;
import java.util.Map;
import java.util.Set;
import java.util.TreeSet;
import javax.lang.model.element.Element;
import javax.lang.model.element.ElementKind;
import javax.lang.model.element.Modifier;
import javax.lang.model.type.TypeKind;
import javax.lang.model.type.TypeMirror;
import javax.tools.JavaCompiler;
import javax.tools.StandardJavaFileManager;
import javax.tools.ToolProvider;

/**
 * The program keeps to those rules of ../shared/LANGUAGE.md that can be seen in its text. It asks for more than they
 * do where the document needs less: no call throws, and none makes an object.
 */
public final class LanguageTest {
    private static final Path PROGRAM = Path.of("src/main/java/ReelOfBoxes.java");
    private static final Set<String> LIBRARY = Set.of("java.lang.Math.min", "java.lang.Math.max");
    private static final int MOST_PARAMETERS = 7;
    private static final int MOST_LINES = 60;
    private static final int MOST_CLASSES = 12;
    private static final int MOST_FIELDS = 20;
    private static final int MOST_OPEN_CALLS = 8;
    private static int wrong = 0;
    private static int seen = 0;

    private LanguageTest() {
    }

    public static void main(String[] args) throws IOException {
        JavaCompiler compiler = ToolProvider.getSystemJavaCompiler();
        try (StandardJavaFileManager files = compiler.getStandardFileManager(null, null, null)) {
            JavacTask task = (JavacTask) compiler.getTask(null, files, null, List.of("--release", "17"), null,
                files.getJavaFileObjects(PROGRAM));
            Trees trees = Trees.instance(task);
            for (CompilationUnitTree unit : task.parse()) {
                task.analyze();
                Look look = new Look(trees, unit);
                look.scan(unit, null);
                look.end();
            }
        }
        mustBe(0, "something was looked at", seen > 100);
        System.out.println(wrong == 0 ? seen + " things are as the rules ask" : wrong + " things are wrong");
        if (wrong != 0) {
            System.exit(1);
        }
    }

    private static void mustBe(int rule, String what, boolean isRight) {
        seen++;
        if (!isRight) {
            wrong++;
            System.out.println("rule " + rule + ": not so: " + what);
        }
    }

    /** Goes through the program's text, and keeps which method calls which. */
    private static final class Look extends TreePathScanner<Void, Void> {
        private final Trees trees;
        private final CompilationUnitTree unit;
        private final Map<Element, Set<Element>> calls = new LinkedHashMap<>();
        private Element method = null;
        private int classes = 0;

        Look(Trees trees, CompilationUnitTree unit) {
            this.trees = trees;
            this.unit = unit;
        }

        void end() {
            mustBe(11, classes + " classes are at most " + MOST_CLASSES, classes <= MOST_CLASSES);
            for (Element caller : calls.keySet()) {
                if (caller.getModifiers().contains(Modifier.PUBLIC)) {
                    List<Element> chain = longestChain(caller, new ArrayList<>());
                    mustBe(11, "at most " + MOST_OPEN_CALLS + " calls are open at once: " + chain,
                        chain.size() <= MOST_OPEN_CALLS);
                }
            }
        }

        private List<Element> longestChain(Element from, List<Element> open) {
            List<Element> longest = new ArrayList<>();
            if (open.contains(from)) {
                mustBe(8, from + " does not come back to itself", false);
                return longest;
            }
            open.add(from);
            for (Element called : calls.getOrDefault(from, Set.of())) {
                List<Element> chain = longestChain(called, open);
                longest = chain.size() > longest.size() ? chain : longest;
            }
            open.remove(from);
            longest.add(0, from);
            return longest;
        }

        private long line(Tree tree) {
            return unit.getLineMap().getLineNumber(trees.getSourcePositions().getStartPosition(unit, tree));
        }

        private long lastLine(Tree tree) {
            return unit.getLineMap().getLineNumber(trees.getSourcePositions().getEndPosition(unit, tree));
        }

        private Element element() {
            return trees.getElement(getCurrentPath());
        }

        private void mustNotBe(int rule, String what, Tree tree) {
            mustBe(rule, "no " + what + ": line " + line(tree), false);
        }

        @Override
        public Void visitImport(ImportTree tree, Void nothing) {
            mustNotBe(4, "import", tree);
            return null;
        }

        @Override
        public Void visitAnnotation(AnnotationTree tree, Void nothing) {
            mustNotBe(4, "annotation", tree);
            return null;
        }

        @Override
        public Void visitClass(ClassTree tree, Void nothing) {
            classes++;
            Element declared = element();
            boolean isOutermost = declared.getSimpleName().contentEquals("ReelOfBoxes");
            mustBe(2, declared + " is a static class inside the one of the face", isOutermost
                || declared.getModifiers().contains(Modifier.STATIC)
                    && declared.getEnclosingElement().getSimpleName().contentEquals("ReelOfBoxes"));
            long fields = declared.getEnclosedElements().stream()
                .filter(member -> member.getKind() == ElementKind.FIELD && !member.getModifiers().contains(Modifier.STATIC))
                .count();
            mustBe(11, declared + " has at most " + MOST_FIELDS + " fields", fields <= MOST_FIELDS);
            return super.visitClass(tree, nothing);
        }

        @Override
        public Void visitBlock(BlockTree tree, Void nothing) {
            mustBe(5, "no static block: line " + line(tree), !tree.isStatic());
            return super.visitBlock(tree, nothing);
        }

        @Override
        public Void visitVariable(VariableTree tree, Void nothing) {
            Element declared = element();
            TypeMirror type = declared.asType();
            boolean isRow = type.getKind() == TypeKind.ARRAY;
            if (declared.getModifiers().contains(Modifier.STATIC)) {
                mustBe(5, declared + " is final", declared.getModifiers().contains(Modifier.FINAL));
                mustBe(5, declared + " is a constant, or a row of int written out",
                    isRow ? type.toString().equals("int[]") : type.getKind().isPrimitive());
            }
            mustBe(3, declared + " is a number or boolean, a row, or of a class of the program",
                isRow || type.getKind() == TypeKind.INT || type.getKind() == TypeKind.LONG
                    || type.getKind() == TypeKind.BOOLEAN || type.toString().startsWith("ReelOfBoxes."));
            return super.visitVariable(tree, nothing);
        }

        @Override
        public Void visitMethod(MethodTree tree, Void nothing) {
            method = element();
            calls.computeIfAbsent(method, key -> new LinkedHashSet<>());
            mustBe(11, method + " has at most " + MOST_PARAMETERS + " parameters",
                tree.getParameters().size() <= MOST_PARAMETERS);
            mustBe(11, method + " has at most " + MOST_LINES + " lines", lastLine(tree) - line(tree) < MOST_LINES);
            super.visitMethod(tree, nothing);
            method = null;
            return null;
        }

        @Override
        public Void visitMethodInvocation(MethodInvocationTree tree, Void nothing) {
            Element called = element();
            String owner = called.getEnclosingElement().toString();
            boolean isOwn = owner.equals("ReelOfBoxes") || owner.startsWith("ReelOfBoxes.");
            boolean isMadeByJavac = called.getKind() == ElementKind.CONSTRUCTOR;
            if (isOwn) {
                calls.computeIfAbsent(method, key -> new LinkedHashSet<>()).add(called);
            }
            mustBe(4, owner + "." + called.getSimpleName() + " is one of " + new TreeSet<>(LIBRARY),
                isOwn || isMadeByJavac || LIBRARY.contains(owner + "." + called.getSimpleName()));
            return super.visitMethodInvocation(tree, nothing);
        }

        private boolean isInCall() {
            return method != null && method.getKind() != ElementKind.CONSTRUCTOR;
        }

        @Override
        public Void visitNewClass(NewClassTree tree, Void nothing) {
            mustBe(12, "no object is made in a call: line " + line(tree), !isInCall());
            mustBe(2, "no class without a name: line " + line(tree), tree.getClassBody() == null);
            return super.visitNewClass(tree, nothing);
        }

        @Override
        public Void visitNewArray(NewArrayTree tree, Void nothing) {
            mustBe(12, "no row is made in a call: line " + line(tree), !isInCall());
            return super.visitNewArray(tree, nothing);
        }

        @Override
        public Void visitBinary(BinaryTree tree, Void nothing) {
            TypeMirror type = trees.getTypeMirror(getCurrentPath());
            mustBe(10, "no text is joined: line " + line(tree), type.getKind().isPrimitive());
            return super.visitBinary(tree, nothing);
        }

        @Override
        public Void visitLambdaExpression(LambdaExpressionTree tree, Void nothing) {
            mustNotBe(2, "lambda", tree);
            return null;
        }

        @Override
        public Void visitMemberReference(MemberReferenceTree tree, Void nothing) {
            mustNotBe(2, "method reference", tree);
            return null;
        }

        @Override
        public Void visitThrow(ThrowTree tree, Void nothing) {
            mustNotBe(6, "throw", tree);
            return null;
        }

        @Override
        public Void visitTry(TryTree tree, Void nothing) {
            mustNotBe(6, "try", tree);
            return null;
        }

        @Override
        public Void visitAssert(AssertTree tree, Void nothing) {
            mustNotBe(6, "assert", tree);
            return null;
        }

        @Override
        public Void visitSynchronized(SynchronizedTree tree, Void nothing) {
            mustNotBe(6, "synchronized", tree);
            return null;
        }
    }
}
