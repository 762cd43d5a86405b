import com.sun.source.tree.CompilationUnitTree;
import com.sun.source.tree.MethodInvocationTree;
import com.sun.source.tree.MethodTree;
import com.sun.source.tree.NewClassTree;
import com.sun.source.util.JavacTask;
import com.sun.source.util.TreePathScanner;
import com.sun.source.util.Trees;
import java.nio.file.Path;
import java.util.LinkedHashMap;
import java.util.List;
import java.util.Map;
import java.util.TreeSet;
import javax.lang.model.element.Element;
import javax.lang.model.element.ElementKind;
import javax.lang.model.element.ExecutableElement;
import javax.lang.model.element.Modifier;
import javax.tools.JavaCompiler;
import javax.tools.StandardJavaFileManager;
import javax.tools.ToolProvider;

/** LANGUAGE.md, rules 8 and 11: no method calls itself, and the calls of the face go at most eight deep. */
public final class CallDepthTest {
    private static final int DEEPEST = 8;

    private final Map<Element, TreeSet<String>> calledNames = new LinkedHashMap<>();
    private final Map<String, Element> methods = new LinkedHashMap<>();

    private CallDepthTest() {
    }

    public static void main(String[] args) throws Exception {
        CallDepthTest test = new CallDepthTest();
        test.read();
        int deepest = 0;
        for (Element method : test.calledNames.keySet()) {
            if (method.getModifiers().contains(Modifier.PUBLIC)) {
                String chain = test.longestChain(method, "");
                int depth = chain.split(" ").length;
                Check.holds(chain + " goes at most eight deep", depth <= DEEPEST);
                deepest = Math.max(deepest, depth);
            }
        }
        Check.holds("chains of calls were found", deepest > 2);
        Check.end();
    }

    /** Finds all methods and constructors of the class, and what each of them calls. */
    private void read() throws Exception {
        JavaCompiler compiler = ToolProvider.getSystemJavaCompiler();
        try (StandardJavaFileManager files = compiler.getStandardFileManager(null, null, null)) {
            JavacTask task = (JavacTask) compiler.getTask(null, files, null, List.of("--release", "17"), null,
                    files.getJavaFileObjects(Path.of("src/main/java/TextMorph.java")));
            Iterable<? extends CompilationUnitTree> units = task.parse();
            task.analyze();
            Scanner scanner = new Scanner(Trees.instance(task));
            for (CompilationUnitTree unit : units) {
                scanner.scan(unit, null);
            }
        }
    }

    private static String nameOf(Element method) {
        return method.getEnclosingElement().getSimpleName() + "." + method.toString().replace(" ", "");
    }

    /** The names of the calls that stand open at once, from this one on, where they are the most. */
    private String longestChain(Element method, String before) {
        String name = nameOf(method);
        String here = before.isEmpty() ? name : before + " " + name;
        Check.holds(name + " is not called again in " + here, !(" " + before + " ").contains(" " + name + " "));
        if (here.split(" ").length > 3 * DEEPEST) {
            return here;
        }
        String longest = here;
        for (String called : calledNames.get(method)) {
            String chain = methods.containsKey(called) ? longestChain(methods.get(called), here) : here + " " + called;
            longest = chain.split(" ").length > longest.split(" ").length ? chain : longest;
        }
        return longest;
    }

    private final class Scanner extends TreePathScanner<Void, Void> {
        private final Trees trees;
        private Element caller = null;

        Scanner(Trees trees) {
            this.trees = trees;
        }

        @Override
        public Void visitMethod(MethodTree tree, Void unused) {
            Element outer = caller;
            caller = trees.getElement(getCurrentPath());
            calledNames.put(caller, new TreeSet<>());
            methods.put(nameOf(caller), caller);
            super.visitMethod(tree, unused);
            caller = outer;
            return null;
        }

        @Override
        public Void visitMethodInvocation(MethodInvocationTree tree, Void unused) {
            called();
            return super.visitMethodInvocation(tree, unused);
        }

        @Override
        public Void visitNewClass(NewClassTree tree, Void unused) {
            called();
            return super.visitNewClass(tree, unused);
        }

        private void called() {
            Element method = trees.getElement(getCurrentPath());
            boolean superOfObject = method instanceof ExecutableElement && method.getKind() == ElementKind.CONSTRUCTOR
                    && method.getEnclosingElement().toString().equals("java.lang.Object");
            if (caller != null && method != null && !superOfObject) {
                calledNames.get(caller).add(nameOf(method));
            }
        }
    }
}
