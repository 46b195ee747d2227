import com.sun.source.tree.ClassTree;
import com.sun.source.tree.CompilationUnitTree;
import com.sun.source.tree.MethodInvocationTree;
import com.sun.source.tree.MethodTree;
import com.sun.source.tree.NewClassTree;
import com.sun.source.util.JavacTask;
import com.sun.source.util.TreePathScanner;
import com.sun.source.util.Trees;
import java.nio.file.Path;
import java.util.ArrayList;
import java.util.Arrays;
import java.util.LinkedHashMap;
import java.util.LinkedHashSet;
import java.util.List;
import java.util.Map;
import java.util.Set;
import java.util.TreeSet;
import javax.lang.model.element.Element;
import javax.lang.model.element.ExecutableElement;
import javax.lang.model.element.Modifier;
import javax.tools.JavaCompiler;
import javax.tools.StandardJavaFileManager;
import javax.tools.ToolProvider;

/** Who calls whom in the program, by the rules 4, 8 and 11 of LANGUAGE.md. */
public final class CallsTest extends TreePathScanner<Void, Element> {
    private static final String PROGRAM = "SmokesApart";
    private static final int DEEPEST = 8;
    private static final Set<String> LIBRARY = Set.of("java.lang.String.length", "java.lang.String.charAt",
        "java.lang.Math.max", "java.lang.Math.min", "java.lang.Integer.bitCount", "java.lang.Integer.numberOfTrailingZeros",
        "java.lang.Long.bitCount", "java.lang.Long.numberOfTrailingZeros", "java.util.Arrays.fill", "java.lang.System.arraycopy",
        "java.lang.Object.<init>");

    private final Map<Element, Set<Element>> calls = new LinkedHashMap<>();
    private final Set<Element> faces = new LinkedHashSet<>();
    private final Set<String> foreign = new TreeSet<>();
    private final Trees trees;

    private CallsTest(Trees trees) {
        this.trees = trees;
    }

    public static void main(String[] args) throws Exception {
        JavaCompiler compiler = ToolProvider.getSystemJavaCompiler();
        StandardJavaFileManager files = compiler.getStandardFileManager(null, null, null);
        JavacTask task = (JavacTask) compiler.getTask(null, files, null, List.of("-proc:none"), null,
            files.getJavaFileObjects(Path.of("src/main/java/" + PROGRAM + ".java")));
        List<CompilationUnitTree> units = new ArrayList<>();
        for (CompilationUnitTree unit : task.parse()) units.add(unit);
        task.analyze();
        CallsTest test = new CallsTest(Trees.instance(task));
        for (CompilationUnitTree unit : units) test.scan(unit, null);
        test.judge();
        Check.end();
    }

    @Override
    public Void visitClass(ClassTree tree, Element in) {
        return super.visitClass(tree, trees.getElement(getCurrentPath()));
    }

    @Override
    public Void visitMethod(MethodTree tree, Element in) {
        Element method = trees.getElement(getCurrentPath());
        calls.computeIfAbsent(method, x -> new LinkedHashSet<>());
        boolean isOpen = method.getModifiers().contains(Modifier.PUBLIC);
        if (isOpen && method.getEnclosingElement().getSimpleName().contentEquals(PROGRAM)) faces.add(method);
        return super.visitMethod(tree, method);
    }

    @Override
    public Void visitMethodInvocation(MethodInvocationTree tree, Element in) {
        add(in);
        return super.visitMethodInvocation(tree, in);
    }

    @Override
    public Void visitNewClass(NewClassTree tree, Element in) {
        add(in);
        return super.visitNewClass(tree, in);
    }

    private void add(Element in) {
        Element called = trees.getElement(getCurrentPath());
        String owner = called.getEnclosingElement().toString();
        if (owner.equals(PROGRAM) || owner.startsWith(PROGRAM + ".")) calls.computeIfAbsent(in, x -> new LinkedHashSet<>()).add(called);
        else foreign.add(owner + "." + called.getSimpleName());
    }

    private void judge() {
        Check.due("the face and its constructor are seen", faces.size(), 44);
        for (String name : foreign) Check.due("rule 4: " + name, LIBRARY.contains(name) ? 1 : 0, 1);
        for (Element face : faces) {
            List<Element> way = deepest(face, List.of());
            Check.due("rule 11: eight calls deep at most: " + told(way), way.size() <= DEEPEST ? 1 : 0, 1);
        }
        for (Element method : calls.keySet()) recursion(method);
    }

    /** The longest way down from a method; one that stands open on it already isn't gone into again. */
    private List<Element> deepest(Element from, List<Element> open) {
        List<Element> above = new ArrayList<>(open);
        above.add(from);
        List<Element> best = List.of();
        for (Element called : calls.getOrDefault(from, Set.of())) {
            if (above.contains(called)) continue;
            List<Element> way = deepest(called, above);
            if (way.size() > best.size()) best = way;
        }
        List<Element> whole = new ArrayList<>(List.of(from));
        whole.addAll(best);
        return whole;
    }

    /** Methods call themselves alone, never one another in a round, and carry their depth. */
    private void recursion(Element method) {
        Set<Element> below = new LinkedHashSet<>();
        gather(method, method, below);
        boolean round = below.contains(method);
        boolean itself = calls.get(method).contains(method);
        Check.due("rule 8: " + method + " calls itself alone", round == itself ? 1 : 0, 1);
        if (itself && method instanceof ExecutableElement called) {
            boolean carries = called.getParameters().stream().anyMatch(p -> p.getSimpleName().contentEquals("depth"));
            Check.due("rule 8: " + method + " carries its depth", carries ? 1 : 0, 1);
        }
    }

    private void gather(Element from, Element sought, Set<Element> below) {
        for (Element called : calls.getOrDefault(from, Set.of()))
            if (below.add(called) && called != sought) gather(called, sought, below);
    }

    private static String told(List<Element> way) {
        return Arrays.toString(way.stream().map(e -> e.getSimpleName().toString()).toArray());
    }
}
