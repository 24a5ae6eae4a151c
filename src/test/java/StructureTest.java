import com.sun.source.tree.ClassTree;
import com.sun.source.tree.CompilationUnitTree;
import com.sun.source.tree.MethodInvocationTree;
import com.sun.source.tree.MethodTree;
import com.sun.source.tree.NewClassTree;
import com.sun.source.tree.VariableTree;
import com.sun.source.util.JavacTask;
import com.sun.source.util.TreePath;
import com.sun.source.util.TreePathScanner;
import com.sun.source.util.Trees;
import java.io.IOException;
import java.nio.file.Path;
import java.util.ArrayDeque;
import java.util.ArrayList;
import java.util.Deque;
import java.util.LinkedHashMap;
import java.util.LinkedHashSet;
import java.util.List;
import java.util.Map;
import java.util.Set;
import java.util.TreeSet;
import javax.lang.model.element.Element;
import javax.lang.model.element.ElementKind;
import javax.lang.model.element.Modifier;
import javax.tools.JavaCompiler;
import javax.tools.StandardJavaFileManager;
import javax.tools.ToolProvider;

/** The rules of LANGUAGE.md that can be seen in the tree of the class: how deep calls go, and what is called. */
public final class StructureTest extends TreePathScanner<Void, Element> {
    private static final int DEEPEST = 8, MOST_FIELDS = 20, MOST_PARAMETERS = 7;
    private static final Set<String> LIBRARY = Set.of("System.arraycopy", "Arrays.fill", "Math.min", "Math.max",
        "Math.floorMod", "Object.<init>", "Enum.<init>");
    private static final Set<String> EXCEPTIONS = Set.of("IllegalArgumentException", "IllegalStateException",
        "IndexOutOfBoundsException", "NoSuchElementException");

    private final Map<Element, Set<Element>> calls = new LinkedHashMap<>();
    private final Set<String> library = new TreeSet<>();
    private final Set<String> made = new TreeSet<>();
    private Trees trees;

    public static void main(String[] args) throws IOException {
        new StructureTest().look();
        Check.end();
    }

    private void look() throws IOException {
        JavaCompiler compiler = ToolProvider.getSystemJavaCompiler();
        try (StandardJavaFileManager files = compiler.getStandardFileManager(null, null, null)) {
            JavacTask task = (JavacTask) compiler.getTask(null, files, null, List.of("-proc:none"), null,
                files.getJavaFileObjects(Path.of("src/main/java/KernelGym.java")));
            Iterable<? extends CompilationUnitTree> units = task.parse();
            task.analyze();
            trees = Trees.instance(task);
            for (CompilationUnitTree unit : units) {
                scan(unit, null);
            }
        }
        Check.holds("methods are found", calls.size() > 150);
        Check.same("what is called of the library", Set.of(), without(library, LIBRARY));
        Check.same("exceptions that are made", Set.of(), without(made, EXCEPTIONS));
        for (Element method : calls.keySet()) {
            if (method.getModifiers().contains(Modifier.PUBLIC)) {
                List<String> way = longest(method, new ArrayDeque<>());
                Check.holds("not deeper than eight: " + way, way.size() <= DEEPEST);
            }
        }
    }

    private static Set<String> without(Set<String> all, Set<String> allowed) {
        Set<String> rest = new TreeSet<>(all);
        rest.removeAll(allowed);
        return rest;
    }

    /** The longest way of calls, each method at most once. */
    private List<String> longest(Element method, Deque<Element> open) {
        List<String> best = new ArrayList<>();
        open.push(method);
        for (Element next : calls.get(method)) {
            if (calls.containsKey(next) && !open.contains(next)) {
                List<String> way = longest(next, open);
                best = way.size() > best.size() ? way : best;
            }
        }
        open.pop();
        List<String> all = new ArrayList<>(List.of(nameOf(method)));
        all.addAll(best);
        return all;
    }

    private static String nameOf(Element member) {
        return member.getEnclosingElement().getSimpleName() + "." + member.getSimpleName();
    }

    @Override
    public Void visitClass(ClassTree tree, Element in) {
        int fields = 0;
        for (var member : tree.getMembers()) {
            boolean field = member instanceof VariableTree variable
                && !variable.getModifiers().getFlags().contains(Modifier.STATIC);
            fields += field ? 1 : 0;
        }
        Check.holds("fields of " + tree.getSimpleName() + ": " + fields, fields <= MOST_FIELDS);
        return super.visitClass(tree, in);
    }

    @Override
    public Void visitMethod(MethodTree tree, Element in) {
        Element method = trees.getElement(getCurrentPath());
        calls.putIfAbsent(method, new LinkedHashSet<>());
        Check.holds("parameters of " + tree.getName(), tree.getParameters().size() <= MOST_PARAMETERS);
        return super.visitMethod(tree, method);
    }

    @Override
    public Void visitMethodInvocation(MethodInvocationTree tree, Element in) {
        Element called = trees.getElement(new TreePath(getCurrentPath(), tree.getMethodSelect()));
        Element owner = called.getEnclosingElement();
        boolean own = owner.toString().startsWith("KernelGym");
        if (!own) {
            library.add(nameOf(called));
        }
        if (in != null && called.getKind() == ElementKind.METHOD) {
            calls.get(in).add(called);
        }
        return super.visitMethodInvocation(tree, in);
    }

    @Override
    public Void visitNewClass(NewClassTree tree, Element in) {
        String type = tree.getIdentifier().toString();
        if (type.endsWith("Exception")) {
            made.add(type);
        }
        return super.visitNewClass(tree, in);
    }
}
