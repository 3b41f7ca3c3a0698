import com.sun.source.tree.ClassTree;
import com.sun.source.tree.CompilationUnitTree;
import com.sun.source.tree.MethodInvocationTree;
import com.sun.source.tree.MethodTree;
import com.sun.source.tree.NewClassTree;
import com.sun.source.tree.Tree;
import com.sun.source.tree.VariableTree;
import com.sun.source.util.JavacTask;
import com.sun.source.util.TreePathScanner;
import com.sun.source.util.Trees;
import java.io.IOException;
import java.nio.file.Path;
import java.util.ArrayList;
import java.util.HashMap;
import java.util.List;
import java.util.Map;
import java.util.Set;
import java.util.TreeMap;
import java.util.TreeSet;
import javax.lang.model.element.Element;
import javax.lang.model.element.ElementKind;
import javax.lang.model.element.ExecutableElement;
import javax.lang.model.element.Modifier;
import javax.tools.JavaCompiler;
import javax.tools.StandardJavaFileManager;
import javax.tools.ToolProvider;

/**
 * Who calls whom in a source file, as the compiler resolves it: methods and constructors as
 * "Class.name(types)", those of the library too. What an object's fields are set to is called
 * by its constructors.
 */
final class CallTree extends TreePathScanner<Void, String> {
    private final Map<String, Set<String>> calls = new TreeMap<>();
    private final Map<String, Set<Modifier>> modifiers = new HashMap<>();
    private final Trees trees;

    private CallTree(Trees trees) {
        this.trees = trees;
    }

    static CallTree of(Path source) throws IOException {
        JavaCompiler compiler = ToolProvider.getSystemJavaCompiler();
        try (StandardJavaFileManager files = compiler.getStandardFileManager(null, null, null)) {
            JavacTask task = (JavacTask) compiler.getTask(null, files, null, List.of("-proc:none"), null,
                files.getJavaFileObjects(source));
            CallTree tree = new CallTree(Trees.instance(task));
            Iterable<? extends CompilationUnitTree> units = task.parse();
            task.analyze();
            tree.scan(units, null);
            return tree;
        }
    }

    private String nameOf(Element method) {
        return method.getEnclosingElement().getSimpleName() + "." + method;
    }

    private void note(String caller) {
        Element called = trees.getElement(getCurrentPath());
        if (caller != null && called instanceof ExecutableElement) {
            calls.get(caller).add(nameOf(called));
        }
    }

    @Override
    public Void visitMethod(MethodTree method, String outer) {
        Element element = trees.getElement(getCurrentPath());
        String name = nameOf(element);
        calls.computeIfAbsent(name, n -> new TreeSet<>());
        modifiers.put(name, element.getModifiers());
        return super.visitMethod(method, name);
    }

    @Override
    public Void visitVariable(VariableTree variable, String caller) {
        Element element = trees.getElement(getCurrentPath());
        if (element.getKind() != ElementKind.FIELD || element.getModifiers().contains(Modifier.STATIC)) {
            return super.visitVariable(variable, caller);
        }
        for (Element member : element.getEnclosingElement().getEnclosedElements()) {
            if (member.getKind() == ElementKind.CONSTRUCTOR) {
                calls.computeIfAbsent(nameOf(member), n -> new TreeSet<>());
                super.visitVariable(variable, nameOf(member));
            }
        }
        return null;
    }

    @Override
    public Void visitClass(ClassTree one, String outer) {
        for (Tree member : one.getMembers()) {
            scan(member, null);
        }
        return null;
    }

    @Override
    public Void visitMethodInvocation(MethodInvocationTree call, String caller) {
        note(caller);
        return super.visitMethodInvocation(call, caller);
    }

    @Override
    public Void visitNewClass(NewClassTree made, String caller) {
        note(caller);
        return super.visitNewClass(made, caller);
    }

    // ---- what was found

    Set<String> methods() {
        return calls.keySet();
    }

    boolean isPrivateStatic(String method) {
        return modifiers.get(method).containsAll(List.of(Modifier.PRIVATE, Modifier.STATIC));
    }

    boolean callsItself(String method) {
        return calls.get(method).contains(method);
    }

    /** All that is called and does not stand in the file. */
    Set<String> library() {
        Set<String> outside = new TreeSet<>();
        calls.values().forEach(outside::addAll);
        outside.removeAll(calls.keySet());
        return outside;
    }

    /** The longest row of calls that starts with this one; a method that calls itself counts once. */
    List<String> longestFrom(String method) {
        return longest(method, new ArrayList<>(), new HashMap<>());
    }

    private List<String> longest(String method, List<String> open, Map<String, List<String>> found) {
        if (found.containsKey(method)) {
            return found.get(method);
        }
        if (open.contains(method)) {
            throw new IllegalStateException("methods that call one another: " + open);
        }
        open.add(method);
        List<String> longest = List.of();
        for (String called : calls.getOrDefault(method, Set.of())) {
            List<String> row = called.equals(method) ? List.of() : longest(called, open, found);
            longest = row.size() > longest.size() ? row : longest;
        }
        open.remove(method);
        List<String> whole = new ArrayList<>(List.of(method));
        whole.addAll(longest);
        found.put(method, whole);
        return whole;
    }
}
