import com.sun.source.tree.CompilationUnitTree;
import com.sun.source.tree.LambdaExpressionTree;
import com.sun.source.tree.MemberReferenceTree;
import com.sun.source.tree.MethodInvocationTree;
import com.sun.source.tree.MethodTree;
import com.sun.source.tree.NewArrayTree;
import com.sun.source.tree.NewClassTree;
import com.sun.source.tree.TypeCastTree;
import com.sun.source.util.JavacTask;
import com.sun.source.util.TreePath;
import com.sun.source.util.TreePathScanner;
import com.sun.source.util.Trees;
import java.io.IOException;
import java.io.UncheckedIOException;
import java.nio.file.Path;
import java.util.ArrayList;
import java.util.HashMap;
import java.util.HashSet;
import java.util.List;
import java.util.Map;
import java.util.Set;
import java.util.TreeMap;
import java.util.TreeSet;
import javax.lang.model.element.Element;
import javax.lang.model.element.ElementKind;
import javax.lang.model.element.TypeElement;
import javax.tools.JavaCompiler;
import javax.tools.StandardJavaFileManager;
import javax.tools.ToolProvider;

/** LANGUAGE.md's rules 4, 7, 8, 11 and 12, by the calls that the compiler finds in the class. */
public final class CallsTest {
    private static final Due DUE = new Due();
    private static final int MOST_DEEP = 8;
    private static final Set<String> LIBRARY = Set.of(
        "java.lang.String.length", "java.lang.String.charAt", "java.lang.Integer.bitCount",
        "java.lang.Math.max", "java.lang.Math.min", "java.lang.System.arraycopy", "java.util.Arrays.fill");
    private static final Set<String> THROWN = Set.of(
        "java.util.NoSuchElementException", "java.lang.IllegalArgumentException");

    /** By each method (Class.name) those that it calls. */
    private static final Map<String, Set<String>> CALLS = new TreeMap<>();
    private static final Set<String> MADE_IN_CALLS = new TreeSet<>();
    private static final Set<String> UNLISTED = new TreeSet<>();
    private static final Set<String> NAMED_TWICE = new TreeSet<>();
    private static final List<String> CASTS = new ArrayList<>();

    public static void main(String[] args) {
        String path = System.getenv("HEDGE_SOURCE");
        read(Path.of(path == null ? "src/main/java/HedgeWants.java" : path));
        DUE.is("methods are found", CALLS.size() > 37, true);
        none("two methods of one name in one class", NAMED_TWICE);
        none("calls of a library that rule 4 doesn't list", UNLISTED);
        none("objects or arrays made outside constructors", MADE_IN_CALLS);
        none("casts but to int (rule 7)", new TreeSet<>(CASTS));
        recursion();
        depth();
        DUE.end();
    }

    private static void none(String what, Set<String> found) {
        DUE.is(what + " " + found, found.size(), 0);
    }

    /** Rule 8: the methods that read an EXPR call one another, and carry how deep they are; no others do. */
    private static void recursion() {
        Set<String> recursive = new TreeSet<>();
        for (String method : CALLS.keySet()) {
            if (reached(CALLS.get(method)).contains(method)) {
                recursive.add(method);
            }
        }
        Set<String> readers = new TreeSet<>();
        for (String level : List.of("Expr", "And", "Not", "Test", "Sum", "Product", "Part")) {
            readers.add("Reader.read" + level);
        }
        DUE.is("methods that come back to themselves: " + recursive, recursive.equals(readers), true);
    }

    private static Set<String> reached(Set<String> from) {
        Set<String> reached = new HashSet<>(from);
        List<String> left = new ArrayList<>(from);
        while (!left.isEmpty()) {
            for (String next : CALLS.getOrDefault(left.remove(left.size() - 1), Set.of())) {
                if (reached.add(next)) {
                    left.add(next);
                }
            }
        }
        return reached;
    }

    /** Rule 11, the library's own calls counted, too. All that read an EXPR count as one. */
    private static void depth() {
        Map<String, Integer> deep = new HashMap<>();
        for (String method : CALLS.keySet()) {
            DUE.is(method + " goes deeper than eight calls", depthOf(method, deep) > MOST_DEEP, false);
        }
    }

    private static int depthOf(String method, Map<String, Integer> deep) {
        Integer known = deep.get(method);
        if (known != null) {
            return known;
        }
        Set<String> ring = new HashSet<>(Set.of(method));
        for (String other : reached(CALLS.getOrDefault(method, Set.of()))) {
            if (reached(CALLS.getOrDefault(other, Set.of())).contains(method)) {
                ring.add(other);
            }
        }
        int most = 0;
        for (String part : ring) {
            for (String next : CALLS.getOrDefault(part, Set.of())) {
                most = ring.contains(next) ? most : Math.max(most, depthOf(next, deep));
            }
        }
        deep.put(method, most + 1);
        return most + 1;
    }

    // ---- what the compiler finds ----

    private static void read(Path source) {
        JavaCompiler compiler = ToolProvider.getSystemJavaCompiler();
        try (StandardJavaFileManager files = compiler.getStandardFileManager(null, null, null)) {
            JavacTask task = (JavacTask) compiler.getTask(null, files, null, List.of("-proc:none"), null,
                files.getJavaFileObjects(source));
            Iterable<? extends CompilationUnitTree> units = task.parse();
            task.analyze();
            Trees trees = Trees.instance(task);
            for (CompilationUnitTree unit : units) {
                new Finder(trees).scan(new TreePath(unit), null);
            }
        } catch (IOException e) {
            throw new UncheckedIOException(e);
        }
    }

    private static final class Finder extends TreePathScanner<Void, Void> {
        private final Trees trees;
        private String method = "";
        private boolean isCall;

        Finder(Trees trees) {
            this.trees = trees;
        }

        private static String nameOf(Element element) {
            TypeElement of = (TypeElement) element.getEnclosingElement();
            boolean isOwn = of.getQualifiedName().toString().startsWith("HedgeWants");
            return (isOwn ? of.getSimpleName() : of.getQualifiedName()) + "." + element.getSimpleName();
        }

        @Override
        public Void visitMethod(MethodTree tree, Void nothing) {
            Element element = trees.getElement(getCurrentPath());
            String name = nameOf(element);
            isCall = element.getKind() == ElementKind.METHOD;
            if (CALLS.put(name, new TreeSet<>()) != null) {
                NAMED_TWICE.add(name);
            }
            String outer = method;
            method = name;
            super.visitMethod(tree, nothing);
            method = outer;
            isCall = false;
            return null;
        }

        @Override
        public Void visitMethodInvocation(MethodInvocationTree tree, Void nothing) {
            Element element = trees.getElement(getCurrentPath());
            String name = nameOf(element);
            boolean isOwn = !name.startsWith("java.");
            boolean isMadeByCompiler = name.endsWith(".<init>");
            if (!isOwn && !isMadeByCompiler && !LIBRARY.contains(name)) {
                UNLISTED.add(name);
            }
            if (!isMadeByCompiler) {
                CALLS.getOrDefault(method, new TreeSet<>()).add(name);
            }
            return super.visitMethodInvocation(tree, nothing);
        }

        @Override
        public Void visitNewClass(NewClassTree tree, Void nothing) {
            Element element = trees.getElement(getCurrentPath());
            String name = ((TypeElement) element.getEnclosingElement()).getQualifiedName().toString();
            if (isCall && !THROWN.contains(name)) {
                MADE_IN_CALLS.add(method + " makes " + name);
            }
            return super.visitNewClass(tree, nothing);
        }

        @Override
        public Void visitNewArray(NewArrayTree tree, Void nothing) {
            if (isCall) {
                MADE_IN_CALLS.add(method + " makes " + tree);
            }
            return super.visitNewArray(tree, nothing);
        }

        @Override
        public Void visitTypeCast(TypeCastTree tree, Void nothing) {
            if (!tree.getType().toString().equals("int")) {
                CASTS.add(method + ": " + tree);
            }
            return super.visitTypeCast(tree, nothing);
        }

        @Override
        public Void visitLambdaExpression(LambdaExpressionTree tree, Void nothing) {
            UNLISTED.add("a lambda in " + method);
            return super.visitLambdaExpression(tree, nothing);
        }

        @Override
        public Void visitMemberReference(MemberReferenceTree tree, Void nothing) {
            UNLISTED.add("a method reference in " + method);
            return super.visitMemberReference(tree, nothing);
        }
    }
}
