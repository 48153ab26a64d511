import com.sun.source.tree.BinaryTree;
import com.sun.source.tree.ClassTree;
import com.sun.source.tree.CompilationUnitTree;
import com.sun.source.tree.MethodInvocationTree;
import com.sun.source.tree.MethodTree;
import com.sun.source.tree.NewClassTree;
import com.sun.source.tree.Tree;
import com.sun.source.util.JavacTask;
import com.sun.source.util.TreePath;
import com.sun.source.util.TreePathScanner;
import com.sun.source.util.Trees;
import java.io.IOException;
import java.nio.file.Path;
import java.util.EnumSet;
import java.util.HashMap;
import java.util.List;
import java.util.Map;
import java.util.Set;
import java.util.TreeMap;
import java.util.TreeSet;
import javax.lang.model.element.Element;
import javax.lang.model.element.Modifier;
import javax.tools.JavaCompiler;
import javax.tools.StandardJavaFileManager;
import javax.tools.ToolProvider;

/**
 * What LANGUAGE.md asks and only the compiler's own view of the source tells: what is taken from the library,
 * how deep calls go, what calls itself, and which kinds of code are there at all.
 */
public final class SourceTest {
    private static final Path SOURCE = Path.of("src/main/java/IceHouse.java");
    private static final int MOST_DEEP = 8;
    private static final Set<String> LIBRARY = Set.of(
            "Object.<init>", "Arrays.fill", "System.arraycopy", "Long.bitCount", "Math.max", "Math.min");
    private static final Set<Tree.Kind> RULED_OUT = EnumSet.of(
            Tree.Kind.LAMBDA_EXPRESSION, Tree.Kind.MEMBER_REFERENCE, Tree.Kind.THROW, Tree.Kind.TRY,
            Tree.Kind.SYNCHRONIZED, Tree.Kind.ASSERT, Tree.Kind.TYPE_CAST, Tree.Kind.DOUBLE_LITERAL,
            Tree.Kind.FLOAT_LITERAL, Tree.Kind.STRING_LITERAL, Tree.Kind.ANNOTATION,
            Tree.Kind.DIVIDE_ASSIGNMENT, Tree.Kind.REMAINDER_ASSIGNMENT);

    /** By each method of the class what it calls in the class. */
    private final Map<String, Set<String>> calls = new TreeMap<>();
    private final Set<String> face = new TreeSet<>();
    private final Set<String> library = new TreeSet<>();
    private final Set<String> divisors = new TreeSet<>();

    public static void main(String[] args) throws IOException {
        SourceTest source = new SourceTest();
        source.read();
        Due.is("methods of the face", 36, source.face.size() - 1);
        Due.yes("of the library: " + source.library, LIBRARY.containsAll(source.library));
        source.theDepth();
        source.theDivisors();
        Due.end();
    }

    private void read() throws IOException {
        JavaCompiler javac = ToolProvider.getSystemJavaCompiler();
        try (StandardJavaFileManager files = javac.getStandardFileManager(null, null, null)) {
            JavacTask task = (JavacTask) javac.getTask(null, files, null, List.of("-proc:none", "--release", "17"),
                    null, files.getJavaFileObjects(SOURCE));
            Iterable<? extends CompilationUnitTree> units = task.parse();
            task.analyze();
            for (CompilationUnitTree unit : units) {
                new Reader(Trees.instance(task)).scan(unit, null);
            }
        }
    }

    /** The method of the face is the first call; what calls itself is no further one. */
    private void theDepth() {
        Map<String, Integer> known = new HashMap<>();
        int deepest = 0;
        for (String method : face) {
            int depth = depthOf(method, new TreeSet<>(), known);
            Due.yes(method + " goes " + depth + " deep", depth <= MOST_DEEP);
            deepest = Math.max(deepest, depth);
        }
        System.out.println("calls go " + deepest + " deep");
    }

    private int depthOf(String method, Set<String> open, Map<String, Integer> known) {
        if (known.containsKey(method)) {
            return known.get(method);
        }
        open.add(method);
        int below = 0;
        for (String called : calls.getOrDefault(method, Set.of())) {
            boolean itself = called.equals(method);
            boolean aRound = !itself && open.contains(called);
            Due.yes("no round: " + method + " calls " + called, !aRound);
            if (!itself && !aRound) {
                below = Math.max(below, depthOf(called, open, known));
            }
        }
        open.remove(method);
        known.put(method, 1 + below);
        return 1 + below;
    }

    /** A divisor is a constant that is not 0, or is 2 and something that is never below 0. */
    private void theDivisors() {
        Set<String> fine = Set.of("2", "10", "400", "LEVELS", "PLACES", "ROWS", "(2 + snowOn[c])");
        Due.yes("divisors: " + divisors, fine.containsAll(divisors));
    }

    private final class Reader extends TreePathScanner<Void, Void> {
        private final Trees trees;
        private String method = "";

        Reader(Trees trees) {
            this.trees = trees;
        }

        @Override
        public Void scan(Tree tree, Void none) {
            if (tree != null) {
                Due.yes("without " + tree.getKind() + " " + tree, !RULED_OUT.contains(tree.getKind()));
            }
            return super.scan(tree, none);
        }

        @Override
        public Void visitClass(ClassTree tree, Void none) {
            Element element = trees.getElement(getCurrentPath());
            boolean inside = element.getEnclosingElement().getKind().isClass();
            Due.yes("static: " + element, !inside || element.getModifiers().contains(Modifier.STATIC));
            Due.yes("with a name", !tree.getSimpleName().isEmpty());
            return super.visitClass(tree, none);
        }

        @Override
        public Void visitMethod(MethodTree tree, Void none) {
            String outer = method;
            Element element = trees.getElement(getCurrentPath());
            method = name(element);
            if (element.getEnclosingElement().getSimpleName().contentEquals("IceHouse")
                    && element.getModifiers().contains(Modifier.PUBLIC)) {
                face.add(method);
            }
            super.visitMethod(tree, none);
            method = outer;
            return null;
        }

        @Override
        public Void visitMethodInvocation(MethodInvocationTree tree, Void none) {
            note(trees.getElement(new TreePath(getCurrentPath(), tree.getMethodSelect())));
            return super.visitMethodInvocation(tree, none);
        }

        @Override
        public Void visitNewClass(NewClassTree tree, Void none) {
            note(trees.getElement(getCurrentPath()));
            return super.visitNewClass(tree, none);
        }

        @Override
        public Void visitBinary(BinaryTree tree, Void none) {
            if (tree.getKind() == Tree.Kind.DIVIDE || tree.getKind() == Tree.Kind.REMAINDER) {
                divisors.add(tree.getRightOperand().toString());
            }
            return super.visitBinary(tree, none);
        }

        private void note(Element called) {
            Element top = called;
            while (top.getEnclosingElement().getKind().isClass()) {
                top = top.getEnclosingElement();
            }
            if (top.getSimpleName().contentEquals("IceHouse")) {
                calls.computeIfAbsent(method, m -> new TreeSet<>()).add(name(called));
            } else {
                library.add(called.getEnclosingElement().getSimpleName() + "." + called.getSimpleName());
            }
        }

        private String name(Element element) {
            return element.getEnclosingElement().getSimpleName() + "." + element;
        }
    }
}
