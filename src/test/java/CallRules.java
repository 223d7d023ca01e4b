import com.sun.source.tree.CompilationUnitTree;
import com.sun.source.tree.DoWhileLoopTree;
import com.sun.source.tree.EnhancedForLoopTree;
import com.sun.source.tree.ForLoopTree;
import com.sun.source.tree.MethodInvocationTree;
import com.sun.source.tree.MethodTree;
import com.sun.source.tree.NewClassTree;
import com.sun.source.tree.TypeCastTree;
import com.sun.source.tree.WhileLoopTree;
import com.sun.source.util.JavacTask;
import com.sun.source.util.TreePathScanner;
import com.sun.source.util.Trees;
import java.io.IOException;
import java.nio.file.Path;
import java.util.HashSet;
import java.util.LinkedHashMap;
import java.util.List;
import java.util.Map;
import java.util.Set;
import java.util.TreeSet;
import javax.lang.model.element.Element;
import javax.tools.JavaCompiler;
import javax.tools.StandardJavaFileManager;
import javax.tools.ToolProvider;

/**
 * The rules of LANGUAGE.md on what calls what, seen as the compiler sees it: the library (4), recursion
 * (8), loops (9), how deep calls go (11), and what is made in a loop (12).
 */
public final class CallRules extends TreePathScanner<Void, Void> {
    /** Of what rule 4 allows, that which the program uses. */
    private static final Set<String> LIBRARY = Set.of(
            "java.lang.Math.max(int,int)", "java.lang.Math.max(long,long)", "java.lang.Math.min(int,int)",
            "java.lang.Long.bitCount(long)", "java.util.Arrays.copyOf(int[],int)", "java.util.Arrays.fill(int[],int)",
            "java.lang.Object.Object()");

    private static final int DEEPEST = 8;

    private static int wrong = 0;

    private final Trees trees;
    private final Map<String, Set<String>> calls = new LinkedHashMap<>();
    private final Set<String> called = new TreeSet<>();
    private String method = "";
    private int loops = 0;
    private int seen = 0;

    private CallRules(Trees trees) {
        this.trees = trees;
    }

    public static void main(String[] args) throws IOException {
        JavaCompiler compiler = ToolProvider.getSystemJavaCompiler();
        StandardJavaFileManager files = compiler.getStandardFileManager(null, null, null);
        JavacTask task = (JavacTask) compiler.getTask(null, files, null, List.of("-proc:none"), null,
                files.getJavaFileObjects(Path.of("src/main/java/ClauseSearch.java")));
        Iterable<? extends CompilationUnitTree> units = task.parse();
        task.analyze();
        CallRules rules = new CallRules(Trees.instance(task));
        for (CompilationUnitTree unit : units) {
            rules.scan(unit, null);
        }
        rules.judge();
        System.out.println(wrong == 0 ? "the rules are kept" : wrong + " rules are not kept");
        if (wrong != 0) {
            System.exit(1);
        }
    }

    private static void check(String rule, boolean kept) {
        if (!kept) {
            wrong++;
            System.out.println("not kept: " + rule);
        }
    }

    private void judge() {
        check("methods and loops were seen", calls.size() > 60 && seen > 15);
        for (String name : called) {
            check("rule 4, the library: " + name, calls.containsKey(name) || LIBRARY.contains(name));
        }
        for (String name : calls.keySet()) {
            int depth = depthOf(name, new HashSet<>());
            check("rule 11, at most " + DEEPEST + " deep: " + name + " goes " + depth, depth <= DEEPEST);
        }
    }

    /** How many calls stand open at once at the most, this one and the library's among them. */
    private int depthOf(String name, Set<String> open) {
        if (!open.add(name)) {
            check("rule 8, no recursion: " + name, false);
            return 0;
        }
        int deepest = 0;
        for (String next : calls.getOrDefault(name, Set.of())) {
            deepest = Math.max(deepest, depthOf(next, open));
        }
        open.remove(name);
        return deepest + 1;
    }

    private static String nameOf(Element element) {
        return element.getEnclosingElement() + "." + element;
    }

    private void noteCallOf(Element element) {
        called.add(nameOf(element));
        calls.get(method).add(nameOf(element));
    }

    @Override
    public Void visitMethod(MethodTree tree, Void none) {
        method = nameOf(trees.getElement(getCurrentPath()));
        calls.put(method, new TreeSet<>());
        check("rule 11, at most seven parameters: " + method, tree.getParameters().size() <= 7);
        return super.visitMethod(tree, none);
    }

    @Override
    public Void visitMethodInvocation(MethodInvocationTree tree, Void none) {
        noteCallOf(trees.getElement(getCurrentPath()));
        return super.visitMethodInvocation(tree, none);
    }

    @Override
    public Void visitNewClass(NewClassTree tree, Void none) {
        check("rule 12, nothing is made in a loop: " + method, loops == 0);
        noteCallOf(trees.getElement(getCurrentPath()));
        return super.visitNewClass(tree, none);
    }

    @Override
    public Void visitTypeCast(TypeCastTree tree, Void none) {
        check("no cast: " + method, false);
        return super.visitTypeCast(tree, none);
    }

    @Override
    public Void visitForLoop(ForLoopTree tree, Void none) {
        check("rule 9, a counter: " + method, tree.getInitializer().size() == 1 && tree.getUpdate().size() == 1);
        check("rule 9, a bound: " + method, tree.getCondition() != null
                && tree.getCondition().toString().matches("\\w+ (<|>=) [\\w.]+( && .*)?"));
        seen++;
        loops++;
        super.visitForLoop(tree, none);
        loops--;
        return null;
    }

    @Override
    public Void visitWhileLoop(WhileLoopTree tree, Void none) {
        check("rule 9, only loops that count: " + method, false);
        return super.visitWhileLoop(tree, none);
    }

    @Override
    public Void visitDoWhileLoop(DoWhileLoopTree tree, Void none) {
        check("rule 9, only loops that count: " + method, false);
        return super.visitDoWhileLoop(tree, none);
    }

    @Override
    public Void visitEnhancedForLoop(EnhancedForLoopTree tree, Void none) {
        seen++;
        loops++;
        super.visitEnhancedForLoop(tree, none);
        loops--;
        return null;
    }
}
