import com.sun.source.tree.ArrayAccessTree;
import com.sun.source.tree.AssertTree;
import com.sun.source.tree.BinaryTree;
import com.sun.source.tree.ClassTree;
import com.sun.source.tree.CompilationUnitTree;
import com.sun.source.tree.CompoundAssignmentTree;
import com.sun.source.tree.ExpressionTree;
import com.sun.source.tree.IdentifierTree;
import com.sun.source.tree.ImportTree;
import com.sun.source.tree.LambdaExpressionTree;
import com.sun.source.tree.LiteralTree;
import com.sun.source.tree.MemberReferenceTree;
import com.sun.source.tree.MethodInvocationTree;
import com.sun.source.tree.MethodTree;
import com.sun.source.tree.NewArrayTree;
import com.sun.source.tree.NewClassTree;
import com.sun.source.tree.SynchronizedTree;
import com.sun.source.tree.ThrowTree;
import com.sun.source.tree.Tree;
import com.sun.source.tree.TryTree;
import com.sun.source.tree.TypeCastTree;
import com.sun.source.tree.VariableTree;
import com.sun.source.tree.WhileLoopTree;
import com.sun.source.util.JavacTask;
import com.sun.source.util.TreePath;
import com.sun.source.util.TreePathScanner;
import com.sun.source.util.Trees;
import java.io.IOException;
import java.lang.reflect.Constructor;
import java.lang.reflect.Field;
import java.lang.reflect.Method;
import java.lang.reflect.Modifier;
import java.nio.file.Files;
import java.nio.file.Path;
import java.util.ArrayList;
import java.util.HashMap;
import java.util.HashSet;
import java.util.List;
import java.util.Map;
import java.util.Set;
import java.util.TreeSet;
import javax.lang.model.element.Element;
import javax.lang.model.element.ElementKind;
import javax.lang.model.element.VariableElement;
import javax.tools.JavaCompiler;
import javax.tools.JavaFileObject;
import javax.tools.StandardJavaFileManager;
import javax.tools.ToolProvider;

/** The rules of LANGUAGE.md that a look at the source can tell, and some that this class sets itself. */
public final class LanguageTest {
    private static final Check check = new Check("LanguageTest");
    private static final Path SOURCE = Path.of(System.getProperty("source", "src/main/java/PostalLines.java"));
    private static final Set<String> LIBRARY = Set.of("java.util.Arrays.fill", "java.lang.Math.min", "java.lang.Math.max",
            "java.lang.Math.abs");

    /** The only methods that use an index: each tests it first. */
    private static final Set<String> INDEXING = Set.of("at", "put", "wayAt", "putWay");

    public static void main(String[] args) throws IOException {
        face();
        source();
        check.end();
    }

    /** The class has the document's public face and no other. */
    private static void face() throws IOException {
        Set<String> want = new TreeSet<>();
        boolean inFace = false;
        for (String line : Files.readAllLines(Path.of("../shared/DOC.md"))) {
            if (line.startsWith("```")) inFace = line.equals("```java");
            if (inFace && line.startsWith("    public")) want.add(line.strip().replaceAll(" [a-z][a-zA-Z]*([,)])", "$1"));
        }
        Set<String> got = new TreeSet<>();
        List<String> constants = new ArrayList<>();
        for (Field f : PostalLines.class.getDeclaredFields()) {
            if (!Modifier.isPrivate(f.getModifiers())) constants.add(f.getName());
        }
        for (Constructor<?> c : PostalLines.class.getDeclaredConstructors()) {
            if (!Modifier.isPrivate(c.getModifiers())) got.add("public PostalLines(" + types(c.getParameterTypes()) + ");");
        }
        for (Method m : PostalLines.class.getDeclaredMethods()) {
            if (Modifier.isPrivate(m.getModifiers())) continue;
            got.add("public " + m.getReturnType() + " " + m.getName() + "(" + types(m.getParameterTypes()) + ");");
        }
        want.removeIf(line -> line.contains("static final"));
        check.due("the face", got.toString(), want.toString());
        check.due("24 promises", got.size(), 24);
        check.due("the constants", constants.toString(), "[NONE, BAD, BROKEN, LONG, EMPTY, KIND, TWICE, FULL]");
        check.holds("public and final", PostalLines.class.getModifiers() == (Modifier.PUBLIC | Modifier.FINAL));
        int[] values = {PostalLines.NONE, PostalLines.BAD, PostalLines.BROKEN, PostalLines.LONG, PostalLines.EMPTY,
            PostalLines.KIND, PostalLines.TWICE, PostalLines.FULL};
        for (int i = 0; i < values.length; i++) check.due("constant " + i, values[i], -1 - i);
    }

    private static String types(Class<?>[] types) {
        List<String> names = new ArrayList<>();
        for (Class<?> type : types) names.add(type.getName());
        return String.join(", ", names);
    }

    private static void source() throws IOException {
        for (String line : Files.readAllLines(SOURCE)) {
            check.holds("plain signs: " + line, line.chars().allMatch(c -> c < 128));
        }
        JavaCompiler compiler = ToolProvider.getSystemJavaCompiler();
        try (StandardJavaFileManager files = compiler.getStandardFileManager(null, null, null)) {
            Iterable<? extends JavaFileObject> units = files.getJavaFileObjects(SOURCE);
            JavacTask task = (JavacTask) compiler.getTask(null, files, null, List.of("-proc:none"), null, units);
            Iterable<? extends CompilationUnitTree> trees = task.parse();
            task.analyze();
            for (CompilationUnitTree tree : trees) {
                Rules rules = new Rules(tree, Trees.instance(task));
                rules.scan(tree, null);
                rules.end();
            }
        }
    }

    /** Walks the source once. */
    private static final class Rules extends TreePathScanner<Void, Void> {
        private final CompilationUnitTree unit;
        private final Trees trees;
        private final Map<String, Set<String>> calls = new HashMap<>();
        private final Set<String> faceNames = new HashSet<>();
        private String method = "";
        private boolean inConstructor;
        private int classes;

        Rules(CompilationUnitTree unit, Trees trees) {
            this.unit = unit;
            this.trees = trees;
            for (Method m : PostalLines.class.getMethods()) {
                if (m.getDeclaringClass() == PostalLines.class) faceNames.add(m.getName());
            }
        }

        private long line(Tree tree) {
            return unit.getLineMap().getLineNumber(trees.getSourcePositions().getStartPosition(unit, tree));
        }

        private long lastLine(Tree tree) {
            return unit.getLineMap().getLineNumber(trees.getSourcePositions().getEndPosition(unit, tree));
        }

        private void no(String what, Tree tree) {
            check.holds("no " + what + " in line " + line(tree), false);
        }

        private Element element(Tree tree) {
            return trees.getElement(new TreePath(getCurrentPath(), tree));
        }

        @Override public Void visitImport(ImportTree tree, Void none) {
            check.due("import", tree.getQualifiedIdentifier().toString(), "java.util.Arrays");
            return super.visitImport(tree, none);
        }

        @Override public Void visitClass(ClassTree tree, Void none) {
            classes++;
            boolean top = getCurrentPath().getParentPath().getLeaf() == unit;
            boolean inTop = getCurrentPath().getParentPath().getLeaf() instanceof ClassTree;
            Set<?> flags = tree.getModifiers().getFlags();
            check.holds(tree.getSimpleName() + " is a static class inside", top || inTop && flags.toString().contains("static"));
            int fields = 0;
            for (Tree member : tree.getMembers()) {
                if (!(member instanceof VariableTree)) continue;
                String field = ((VariableTree) member).getModifiers().getFlags().toString();
                if (!field.contains("static")) fields++;
                check.holds("static fields are final: line " + line(member), !field.contains("static") || field.contains("final"));
            }
            check.holds(tree.getSimpleName() + " has some twenty fields at most", fields <= 20);
            return super.visitClass(tree, none);
        }

        @Override public Void visitMethod(MethodTree tree, Void none) {
            String outer = method;
            Element here = trees.getElement(getCurrentPath());
            method = key(here);
            inConstructor = here.getKind() == ElementKind.CONSTRUCTOR;
            calls.computeIfAbsent(method, k -> new TreeSet<>());
            check.holds(method + " has 7 parameters at most", tree.getParameters().size() <= 7);
            check.holds(method + " has 60 lines at most", lastLine(tree) - line(tree) < 60);
            boolean isPublic = tree.getModifiers().getFlags().toString().contains("public");
            check.holds(method + " bears no public name", isPublic || !faceNames.contains(tree.getName().toString()));
            super.visitMethod(tree, none);
            method = outer;
            inConstructor = false;
            return null;
        }

        private static String key(Element element) {
            return element.getEnclosingElement().getSimpleName() + "." + element;
        }

        @Override public Void visitMethodInvocation(MethodInvocationTree tree, Void none) {
            Element called = element(tree.getMethodSelect());
            if (!inConstructor || !called.getSimpleName().contentEquals("<init>")) {
                String owner = called.getEnclosingElement().toString();
                if (owner.startsWith("PostalLines")) calls.computeIfAbsent(method, k -> new TreeSet<>()).add(key(called));
                else check.holds("library: " + owner + "." + called, LIBRARY.contains(owner + "." + called.getSimpleName()));
            }
            return super.visitMethodInvocation(tree, none);
        }

        @Override public Void visitNewClass(NewClassTree tree, Void none) {
            boolean inField = method.isEmpty();
            check.holds("new only where an object is made: line " + line(tree), inConstructor || inField);
            check.holds("no anonymous class: line " + line(tree), tree.getClassBody() == null);
            return super.visitNewClass(tree, none);
        }

        @Override public Void visitNewArray(NewArrayTree tree, Void none) {
            check.holds("rows are made with the object: line " + line(tree), inConstructor || method.isEmpty());
            return super.visitNewArray(tree, none);
        }

        @Override public Void visitArrayAccess(ArrayAccessTree tree, Void none) {
            boolean tested = INDEXING.contains(method.replaceAll(".*\\.|\\(.*", ""));
            check.holds("an index is used only where it is tested: line " + line(tree), tested);
            return super.visitArrayAccess(tree, none);
        }

        @Override public Void visitBinary(BinaryTree tree, Void none) {
            if (tree.getKind() == Tree.Kind.DIVIDE || tree.getKind() == Tree.Kind.REMAINDER) divisor(tree.getRightOperand());
            return super.visitBinary(tree, none);
        }

        @Override public Void visitCompoundAssignment(CompoundAssignmentTree tree, Void none) {
            boolean divides = tree.getKind() == Tree.Kind.DIVIDE_ASSIGNMENT || tree.getKind() == Tree.Kind.REMAINDER_ASSIGNMENT;
            if (divides) divisor(tree.getExpression());
            return super.visitCompoundAssignment(tree, none);
        }

        /** Each divisor is a constant, and not 0. */
        private void divisor(ExpressionTree tree) {
            Object value = tree instanceof LiteralTree ? ((LiteralTree) tree).getValue() : null;
            if (tree instanceof IdentifierTree) value = ((VariableElement) element(tree)).getConstantValue();
            check.holds("a constant divisor: line " + line(tree), value instanceof Integer && !value.equals(0));
        }

        @Override public Void visitTypeCast(TypeCastTree tree, Void none) {
            String type = tree.getType().toString();
            check.holds("casts of numbers alone: line " + line(tree), type.equals("int") || type.equals("long"));
            return super.visitTypeCast(tree, none);
        }

        @Override public Void visitWhileLoop(WhileLoopTree tree, Void none) {
            no("while", tree);
            return super.visitWhileLoop(tree, none);
        }

        @Override public Void visitThrow(ThrowTree tree, Void none) {
            no("throw", tree);
            return null;
        }

        @Override public Void visitTry(TryTree tree, Void none) {
            no("try", tree);
            return null;
        }

        @Override public Void visitAssert(AssertTree tree, Void none) {
            no("assert", tree);
            return null;
        }

        @Override public Void visitSynchronized(SynchronizedTree tree, Void none) {
            no("synchronized", tree);
            return null;
        }

        @Override public Void visitLambdaExpression(LambdaExpressionTree tree, Void none) {
            no("lambda", tree);
            return null;
        }

        @Override public Void visitMemberReference(MemberReferenceTree tree, Void none) {
            no("method reference", tree);
            return null;
        }

        void end() {
            check.holds("some twelve classes at most: " + classes, classes <= 12);
            int deepest = 0;
            for (String from : new ArrayList<>(calls.keySet())) deepest = Math.max(deepest, depth(from, 1));
            check.holds("calls go eight deep at most: " + deepest, deepest <= 8);
        }

        private int depth(String from, int now) {
            if (now > 20) return now;
            int deepest = now;
            for (String to : calls.getOrDefault(from, Set.of())) deepest = Math.max(deepest, depth(to, now + 1));
            return deepest;
        }
    }
}
