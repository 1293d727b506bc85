import com.sun.source.tree.BinaryTree;
import com.sun.source.tree.CompilationUnitTree;
import com.sun.source.tree.MethodInvocationTree;
import com.sun.source.tree.MethodTree;
import com.sun.source.tree.NewClassTree;
import com.sun.source.util.JavacTask;
import com.sun.source.util.TreePathScanner;
import com.sun.source.util.Trees;
import java.io.File;
import java.util.ArrayList;
import java.util.LinkedHashMap;
import java.util.List;
import java.util.Map;
import java.util.Set;
import java.util.TreeSet;
import javax.lang.model.element.Element;
import javax.lang.model.element.ElementKind;
import javax.tools.JavaCompiler;
import javax.tools.StandardJavaFileManager;
import javax.tools.ToolProvider;

/** Of ../shared/LANGUAGE.md what is seen in who calls whom: rule 4 (library), 8 (recursion), 11 (depth), 12 (objects). */
public final class LanguageCallsTest extends TreePathScanner<Void, Void> {
    private static final String SOURCE = "src/main/java/ThumbReader.java";
    private static final int DEEPEST = 8;

    /** Of what rule 4 allows, what the program uses: static functions that neither throw nor make an object. */
    private static final Set<String> LIBRARY = Set.of("java.lang.Math.abs", "java.lang.Math.max", "java.lang.Math.min",
        "java.lang.System.arraycopy", "java.lang.Object.<init>");

    private static int wrong = 0;

    private final Trees trees;
    private final Map<String, Set<String>> calls = new LinkedHashMap<>();
    private String caller = "";
    private boolean inConstructor = false;

    private LanguageCallsTest(Trees trees) {
        this.trees = trees;
    }

    public static void main(String[] args) throws Exception {
        JavaCompiler compiler = ToolProvider.getSystemJavaCompiler();
        StandardJavaFileManager files = compiler.getStandardFileManager(null, null, null);
        JavacTask task = (JavacTask) compiler.getTask(null, files, null, List.of("--release", "17"), null,
            files.getJavaFileObjects(new File(SOURCE)));
        Iterable<? extends CompilationUnitTree> units = task.parse();
        task.analyze();
        LanguageCallsTest test = new LanguageCallsTest(Trees.instance(task));
        for (CompilationUnitTree unit : units) {
            test.scan(unit, null);
        }
        due("calls are seen", test.calls.size() > 48);
        for (String method : test.calls.keySet()) {
            test.goDown(method, new ArrayList<>());
        }
        System.out.println(wrong == 0 ? "calls are as the language allows" : wrong + " faults");
        if (wrong != 0) {
            System.exit(1);
        }
    }

    private static void due(String what, boolean good) {
        if (!good) {
            wrong++;
            System.out.println("not so: " + what);
        }
    }

    private static String name(Element method) {
        return method.getEnclosingElement() + "." + method.getSimpleName();
    }

    @Override
    public Void visitMethod(MethodTree tree, Void none) {
        Element method = trees.getElement(getCurrentPath());
        caller = name(method);
        inConstructor = method.getKind() == ElementKind.CONSTRUCTOR;
        due("one method has the name " + caller, inConstructor || !calls.containsKey(caller));
        calls.putIfAbsent(caller, new TreeSet<>());
        super.visitMethod(tree, none);
        caller = "";
        inConstructor = false;
        return null;
    }

    @Override
    public Void visitMethodInvocation(MethodInvocationTree tree, Void none) {
        String called = name(trees.getElement(getCurrentPath()));
        if (called.startsWith("ThumbReader")) {
            due(called + " is called by a method", !caller.isEmpty());
            calls.computeIfAbsent(caller, key -> new TreeSet<>()).add(called);
        } else {
            due(called + " is of the library that is allowed", LIBRARY.contains(called));
        }
        return super.visitMethodInvocation(tree, none);
    }

    @Override
    public Void visitNewClass(NewClassTree tree, Void none) {
        due(tree + " in a constructor or a field", inConstructor || caller.isEmpty());
        return super.visitNewClass(tree, none);
    }

    @Override
    public Void visitNewArray(com.sun.source.tree.NewArrayTree tree, Void none) {
        due(tree + " in a constructor or a field", inConstructor || caller.isEmpty());
        return super.visitNewArray(tree, none);
    }

    @Override
    public Void visitBinary(BinaryTree tree, Void none) {
        boolean primitive = trees.getTypeMirror(getCurrentPath()).getKind().isPrimitive();
        due(tree + " is of numbers", primitive);
        return super.visitBinary(tree, none);
    }

    private void goDown(String method, List<String> open) {
        List<String> deeper = new ArrayList<>(open);
        deeper.add(method);
        due("no recursion: " + deeper, !open.contains(method));
        due("eight deep at most: " + deeper, deeper.size() <= DEEPEST);
        if (open.contains(method) || deeper.size() > DEEPEST) {
            return;
        }
        for (String called : calls.getOrDefault(method, Set.of())) {
            goDown(called, deeper);
        }
    }
}
