import com.sun.source.tree.BinaryTree;
import com.sun.source.tree.CompilationUnitTree;
import com.sun.source.tree.CompoundAssignmentTree;
import com.sun.source.tree.MethodInvocationTree;
import com.sun.source.tree.MethodTree;
import com.sun.source.tree.NewClassTree;
import com.sun.source.tree.Tree;
import com.sun.source.util.JavacTask;
import com.sun.source.util.TreePathScanner;
import com.sun.source.util.Trees;
import java.io.IOException;
import java.nio.file.Path;
import java.util.List;
import java.util.Map;
import java.util.Set;
import java.util.TreeMap;
import java.util.TreeSet;
import javax.lang.model.element.Element;
import javax.lang.model.type.TypeKind;
import javax.tools.JavaCompiler;
import javax.tools.StandardJavaFileManager;
import javax.tools.ToolProvider;

/** Rules 4, 8, 10 and 11 of LANGUAGE.md, as far as the compiler's own tree of the source shows them. */
public final class CallsTest extends TreePathScanner<Void, Void> {
    private static final Path SOURCE = Path.of("src/main/java/LifeKeys.java");
    private static final int DEEPEST = 8;
    /** Only these may call themselves, by way of one another: they carry how deep they are as an argument. */
    private static final Set<String> RECURSIVE = Set.of("Rules.any", "Rules.all", "Rules.unit", "Rules.within", "Rules.atLeast");

    /** All that the class needs of what rule 4 lists; who needs more of it adds it here. */
    private static final Set<String> LIBRARY = Set.of("Integer.bitCount", "Math.floorMod", "Math.max", "Math.min", "System.arraycopy",
        "Object.<init>", "NoSuchElementException.<init>");

    private final Trees trees;
    private final Map<String, Set<String>> calls = new TreeMap<>();
    private String caller = "";
    private int wrong = 0;

    private CallsTest(Trees trees) {
        this.trees = trees;
    }

    private void wrong(int rule, String what) {
        wrong++;
        System.out.println("rule " + rule + ": " + what);
    }

    private static String nameOf(Element method) {
        return method.getEnclosingElement().getSimpleName() + "." + method.getSimpleName();
    }

    private boolean isBoolean() {
        return trees.getTypeMirror(getCurrentPath()).getKind() == TypeKind.BOOLEAN;
    }

    @Override
    public Void visitMethod(MethodTree node, Void none) {
        caller = nameOf(trees.getElement(getCurrentPath()));
        calls.putIfAbsent(caller, new TreeSet<>());
        return super.visitMethod(node, none);
    }

    @Override
    public Void visitMethodInvocation(MethodInvocationTree node, Void none) {
        keepCall(trees.getElement(getCurrentPath()));
        return super.visitMethodInvocation(node, none);
    }

    @Override
    public Void visitNewClass(NewClassTree node, Void none) {
        keepCall(trees.getElement(getCurrentPath()));
        return super.visitNewClass(node, none);
    }

    private void keepCall(Element called) {
        if (!called.getEnclosingElement().toString().startsWith("java")) {
            calls.computeIfAbsent(caller, c -> new TreeSet<>()).add(nameOf(called));
        } else if (!LIBRARY.contains(nameOf(called))) {
            wrong(4, nameOf(called) + " is called by " + caller);
        }
    }

    /** Rule 10 has {@code &&} and {@code ||} for what is true or false; {@code &}, {@code |} and {@code ^} are for numbers. */
    @Override
    public Void visitBinary(BinaryTree node, Void none) {
        boolean bitwise = node.getKind() == Tree.Kind.AND || node.getKind() == Tree.Kind.OR || node.getKind() == Tree.Kind.XOR;
        if (bitwise && isBoolean()) {
            wrong(10, node.toString());
        }
        return super.visitBinary(node, none);
    }

    @Override
    public Void visitCompoundAssignment(CompoundAssignmentTree node, Void none) {
        if (isBoolean()) {
            wrong(10, node.toString());
        }
        return super.visitCompoundAssignment(node, none);
    }

    /** The longest chain of calls from here on in which no method stands twice. */
    private int depth(String method, Set<String> open) {
        open.add(method);
        int deepest = 0;
        for (String next : calls.getOrDefault(method, Set.of())) {
            if (!open.contains(next)) {
                deepest = Math.max(deepest, depth(next, open));
            }
        }
        open.remove(method);
        return deepest + 1;
    }

    private boolean comesTo(String from, String aim, Set<String> seen) {
        for (String next : calls.getOrDefault(from, Set.of())) {
            if (next.equals(aim) || seen.add(next) && comesTo(next, aim, seen)) {
                return true;
            }
        }
        return false;
    }

    private void checkCalls() {
        for (String method : calls.keySet()) {
            if (depth(method, new TreeSet<>()) > DEEPEST) {
                wrong(11, "calls from " + method + " on go more than eight deep");
            }
            if (comesTo(method, method, new TreeSet<>()) != RECURSIVE.contains(method)) {
                wrong(8, method + (RECURSIVE.contains(method) ? " no longer calls" : " calls") + " itself");
            }
        }
        if (!calls.keySet().containsAll(RECURSIVE) || calls.size() < 51) {
            wrong(8, "only these methods were found: " + calls.keySet());
        }
    }

    public static void main(String[] args) throws IOException {
        JavaCompiler compiler = ToolProvider.getSystemJavaCompiler();
        try (StandardJavaFileManager files = compiler.getStandardFileManager(null, null, null)) {
            JavacTask task = (JavacTask) compiler.getTask(null, files, null, List.of("-proc:none"), null, files.getJavaFileObjects(SOURCE));
            Iterable<? extends CompilationUnitTree> units = task.parse();
            task.analyze();
            CallsTest test = new CallsTest(Trees.instance(task));
            for (CompilationUnitTree unit : units) {
                test.scan(unit, null);
            }
            test.checkCalls();
            System.out.println(test.calls.size() + " methods looked at, " + test.wrong + " things outside the rules");
            if (test.wrong != 0) {
                System.exit(1);
            }
        }
    }
}
