import com.sun.source.tree.ClassTree;
import com.sun.source.tree.CompilationUnitTree;
import com.sun.source.tree.MethodInvocationTree;
import com.sun.source.tree.MethodTree;
import com.sun.source.tree.NewArrayTree;
import com.sun.source.tree.NewClassTree;
import com.sun.source.tree.Tree;
import com.sun.source.util.JavacTask;
import com.sun.source.util.TreePathScanner;
import com.sun.source.util.Trees;
import java.io.IOException;
import java.nio.file.Path;
import java.util.HashMap;
import java.util.HashSet;
import java.util.List;
import java.util.Map;
import java.util.Set;
import javax.lang.model.element.Element;
import javax.lang.model.element.ElementKind;
import javax.tools.JavaCompiler;
import javax.tools.StandardJavaFileManager;
import javax.tools.ToolProvider;

/**
 * LANGUAGE.md, 4, 8, 11 and 12: which of the library is called, no recursion here, calls eight deep
 * at most, short methods, few numbers, and that only constructors make objects.
 */
public final class SourceTreeTest {
    private static final Due DUE = new Due("SourceTreeTest");
    private static final Path SOURCE = Path.of("src/main/java/NoDayForIt.java");

    private static final Set<String> LIBRARY = Set.of("java.lang.Object.Object",
        "java.lang.String.length", "java.lang.String.charAt", "java.lang.System.arraycopy",
        "java.lang.Math.min", "java.lang.Math.max", "java.lang.Math.floorDiv",
        "java.lang.Integer.bitCount", "java.lang.Long.bitCount", "java.util.Arrays.fill");

    private final Map<Element, Set<Element>> calls = new HashMap<>();
    private final Map<Element, Integer> depths = new HashMap<>();
    private final Set<Element> open = new HashSet<>();

    public static void main(String[] args) throws IOException {
        new SourceTreeTest().look();
        DUE.end();
    }

    private void look() throws IOException {
        JavaCompiler javac = ToolProvider.getSystemJavaCompiler();
        try (StandardJavaFileManager files = javac.getStandardFileManager(null, null, null)) {
            JavacTask task = (JavacTask) javac.getTask(null, files, null,
                List.of("--release", "17", "-proc:none"), null, files.getJavaFileObjects(SOURCE));
            Trees trees = Trees.instance(task);
            Iterable<? extends CompilationUnitTree> units = task.parse();
            task.analyze();
            for (CompilationUnitTree unit : units) {
                new Reader(unit, trees).scan(unit, null);
            }
        }
        DUE.is("methods were found", calls.size() > 29 ? 1 : 0, 1);
        for (Set<Element> called : calls.values()) {
            for (Element one : called) {
                boolean isKnown = calls.containsKey(one) || LIBRARY.contains(nameOf(one));
                DUE.is("is known of the library: " + nameOf(one), isKnown ? 1 : 0, 1);
            }
        }
        for (Element method : calls.keySet()) {
            DUE.is("calls go too deep from " + method, depth(method) > 8 ? 1 : 0, 0);
        }
    }

    private static String nameOf(Element method) {
        Element owner = method.getEnclosingElement();
        boolean isMade = method.getKind() == ElementKind.CONSTRUCTOR;
        return owner + "." + (isMade ? owner.getSimpleName() : method.getSimpleName());
    }

    private int depth(Element method) {
        Integer known = depths.get(method);
        if (known != null) {
            return known;
        }
        if (!calls.containsKey(method)) {
            return 0;
        }
        DUE.is("no recursion in " + method, open.add(method) ? 1 : 0, 1);
        int most = 0;
        for (Element called : calls.get(method)) {
            if (!open.contains(called)) {
                most = Math.max(most, depth(called));
            }
        }
        open.remove(method);
        depths.put(method, most + 1);
        return most + 1;
    }

    /** Which methods of the file a method calls, and how long it is. */
    private final class Reader extends TreePathScanner<Void, Void> {
        private final CompilationUnitTree unit;
        private final Trees trees;
        private Element method;
        private int classes = 0;

        Reader(CompilationUnitTree unit, Trees trees) {
            this.unit = unit;
            this.trees = trees;
        }

        @Override
        public Void visitClass(ClassTree tree, Void none) {
            classes++;
            DUE.is("some twelve classes at most", classes > 12 ? 1 : 0, 0);
            return super.visitClass(tree, none);
        }

        @Override
        public Void visitMethod(MethodTree tree, Void none) {
            method = trees.getElement(getCurrentPath());
            calls.put(method, new HashSet<>());
            DUE.is(method + " takes seven at most", tree.getParameters().size() > 7 ? 1 : 0, 0);
            DUE.is(method + " is short", lines(tree) > 60 ? 1 : 0, 0);
            super.visitMethod(tree, none);
            method = null;
            return null;
        }

        private long lines(Tree tree) {
            long end = trees.getSourcePositions().getEndPosition(unit, tree);
            long start = trees.getSourcePositions().getStartPosition(unit, tree);
            return end < 0 ? 0
                : unit.getLineMap().getLineNumber(end) - unit.getLineMap().getLineNumber(start) + 1;
        }

        @Override
        public Void visitMethodInvocation(MethodInvocationTree tree, Void none) {
            called();
            return super.visitMethodInvocation(tree, none);
        }

        @Override
        public Void visitNewClass(NewClassTree tree, Void none) {
            called();
            made(tree);
            return super.visitNewClass(tree, none);
        }

        @Override
        public Void visitNewArray(NewArrayTree tree, Void none) {
            made(tree);
            return super.visitNewArray(tree, none);
        }

        private void made(Tree tree) {
            boolean isLate = method != null && method.getKind() != ElementKind.CONSTRUCTOR;
            DUE.is(method + " makes " + tree, isLate ? 1 : 0, 0);
        }

        private void called() {
            Element called = trees.getElement(getCurrentPath());
            if (method != null && called != null) {
                calls.get(method).add(called);
                if (called.equals(method)) {
                    DUE.is("recursion in " + method, 1, 0);
                }
            }
        }
    }
}
