import com.sun.source.tree.ClassTree;
import com.sun.source.tree.CompilationUnitTree;
import com.sun.source.tree.LambdaExpressionTree;
import com.sun.source.tree.MethodInvocationTree;
import com.sun.source.tree.MethodTree;
import com.sun.source.tree.NewArrayTree;
import com.sun.source.tree.NewClassTree;
import com.sun.source.tree.Tree;
import com.sun.source.tree.VariableTree;
import com.sun.source.util.JavacTask;
import com.sun.source.util.TreePath;
import com.sun.source.util.TreePathScanner;
import com.sun.source.util.Trees;
import java.io.File;
import java.util.ArrayList;
import java.util.List;
import java.util.Map;
import java.util.Set;
import java.util.TreeMap;
import java.util.TreeSet;
import javax.lang.model.element.Element;
import javax.lang.model.element.ElementKind;
import javax.lang.model.element.Modifier;
import javax.tools.JavaCompiler;
import javax.tools.StandardJavaFileManager;
import javax.tools.ToolProvider;

/**
 * What the compiler's own tree of the class shows: which method calls which (rules 8, 11), where
 * objects are made (rule 12, the room), and whose names are used twice (rule 1).
 */
public final class TreeTest {
    private static final int DEEPEST = 8;
    private static final Check c = new Check();

    private final Map<String, Set<String>> calls = new TreeMap<>();
    private final Set<String> face = new TreeSet<>();
    private final List<String> made = new ArrayList<>();
    private final Map<String, Set<String>> reached = new TreeMap<>();

    public static void main(String[] args) throws Exception {
        TreeTest test = new TreeTest();
        test.read(new File("src/main/java/CastWithVows.java"));
        test.names();
        test.depths();
        test.groups();
        test.room();
        c.end();
    }

    private void read(File source) throws Exception {
        JavaCompiler compiler = ToolProvider.getSystemJavaCompiler();
        try (StandardJavaFileManager files = compiler.getStandardFileManager(null, null, null)) {
            JavacTask task = (JavacTask) compiler.getTask(null, files, null, List.of("--release", "17", "-proc:none"),
                null, files.getJavaFileObjects(source));
            Iterable<? extends CompilationUnitTree> units = task.parse();
            task.analyze();
            Trees trees = Trees.instance(task);
            for (CompilationUnitTree unit : units) {
                new Finder(trees).scan(unit, null);
            }
        }
    }

    private static String nameOf(Element method) {
        return method.getEnclosingElement().getSimpleName() + "." + method;
    }

    /** Goes through the tree and notes calls and makings under the method that they stand in. */
    private final class Finder extends TreePathScanner<Void, Void> {
        private final Trees trees;
        private String method = "";
        private boolean making;

        Finder(Trees trees) {
            this.trees = trees;
        }

        @Override
        public Void visitMethod(MethodTree tree, Void none) {
            Element element = trees.getElement(getCurrentPath());
            String around = method;
            method = nameOf(element);
            making = element.getKind() == ElementKind.CONSTRUCTOR;
            calls.putIfAbsent(method, new TreeSet<>());
            if (!making && element.getModifiers().contains(Modifier.PUBLIC)) {
                face.add(method);
            }
            super.visitMethod(tree, none);
            method = around;
            making = false;
            return null;
        }

        @Override
        public Void visitMethodInvocation(MethodInvocationTree tree, Void none) {
            Element element = trees.getElement(new TreePath(getCurrentPath(), tree.getMethodSelect()));
            Element owner = element.getEnclosingElement();
            String pack = owner.toString();
            if (pack.startsWith("CastWithVows") && element.getKind() == ElementKind.METHOD) {
                calls.get(method).add(nameOf(element));
            } else {
                boolean known = pack.startsWith("java.lang.") || pack.equals("java.util.Arrays");
                c.promise("rule 4");
                c.that("a call of " + pack + "." + element, known);
            }
            return super.visitMethodInvocation(tree, none);
        }

        @Override
        public Void visitNewClass(NewClassTree tree, Void none) {
            noteMaking(tree);
            return super.visitNewClass(tree, none);
        }

        @Override
        public Void visitNewArray(NewArrayTree tree, Void none) {
            noteMaking(tree);
            return super.visitNewArray(tree, none);
        }

        private void noteMaking(Tree tree) {
            if (!making && !method.isEmpty()) {
                made.add(tree + " in " + method);
            }
        }

        @Override
        public Void visitLambdaExpression(LambdaExpressionTree tree, Void none) {
            c.promise("rule 2");
            c.that("no lambda", false);
            return super.visitLambdaExpression(tree, none);
        }

        @Override
        public Void visitClass(ClassTree tree, Void none) {
            c.promise("rule 2");
            c.that("a class in no method: " + tree.getSimpleName(), method.isEmpty());
            return super.visitClass(tree, none);
        }

        @Override
        public Void visitVariable(VariableTree tree, Void none) {
            c.promise("rule 3");
            c.that("no Object: " + tree.getName(), tree.getType() == null || !tree.getType().toString().equals("Object"));
            return super.visitVariable(tree, none);
        }
    }

    private void names() {
        c.promise("rule 1");
        c.due("methods of the face", face.size(), 43);
        Set<String> open = new TreeSet<>();
        for (String method : face) {
            c.that("public in the face: " + method, method.startsWith("CastWithVows."));
            open.add(shortName(method));
        }
        for (String method : calls.keySet()) {
            c.that("a name of the face again: " + method, face.contains(method) || !open.contains(shortName(method)));
        }
    }

    private static String shortName(String method) {
        return method.substring(method.indexOf('.') + 1, method.indexOf('('));
    }

    /** Every method that a method comes to, by however many calls. */
    private Set<String> reachedFrom(String method) {
        Set<String> known = reached.get(method);
        if (known == null) {
            known = new TreeSet<>();
            List<String> open = new ArrayList<>(List.of(method));
            while (!open.isEmpty()) {
                for (String next : calls.get(open.remove(open.size() - 1))) {
                    if (known.add(next)) {
                        open.add(next);
                    }
                }
            }
            reached.put(method, known);
        }
        return known;
    }

    private boolean isRecursion(String method) {
        return reachedFrom(method).contains(method);
    }

    /** How deep the calls from a method go, those within a recursion not counted. */
    private int depthOf(String method, Set<String> open) {
        int most = 0;
        open.add(method);
        for (String next : calls.get(method)) {
            if (!open.contains(next)) {
                most = Math.max(most, depthOf(next, open));
            }
        }
        open.remove(method);
        return most + (isRecursion(method) ? 0 : 1);
    }

    private void depths() {
        c.promise("rule 11");
        int most = 0;
        for (String method : face) {
            int depth = depthOf(method, new TreeSet<>());
            most = Math.max(most, depth);
            c.that(method + " goes " + depth + " deep", depth <= DEEPEST);
        }
        System.out.println("calls go " + most + " deep");
    }

    /** The recursions that are meant, each with its guard; another one must be looked at first. */
    private void groups() {
        c.promise("rule 8");
        Set<String> found = new TreeSet<>();
        for (String method : calls.keySet()) {
            if (isRecursion(method)) {
                found.add(method.substring(0, method.indexOf('(')));
            }
        }
        Set<String> meant = new TreeSet<>(List.of("Acts.from", "Acts.own", "Acts.run", "Reader.both", "Reader.compared",
            "Reader.either", "Reader.one", "Reader.opened", "Reader.product", "Reader.sum"));
        c.that("recursions are " + found, found.equals(meant));
    }

    private void room() {
        c.promise("rule 12, the room");
        c.that("made outside constructors: " + made, made.isEmpty());
    }
}
