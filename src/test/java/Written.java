import com.sun.source.tree.BinaryTree;
import com.sun.source.tree.ClassTree;
import com.sun.source.tree.CompilationUnitTree;
import com.sun.source.tree.CompoundAssignmentTree;
import com.sun.source.tree.ExpressionTree;
import com.sun.source.tree.MethodInvocationTree;
import com.sun.source.tree.MethodTree;
import com.sun.source.tree.NewArrayTree;
import com.sun.source.tree.NewClassTree;
import com.sun.source.tree.Tree;
import com.sun.source.tree.TypeCastTree;
import com.sun.source.tree.VariableTree;
import com.sun.source.util.JavacTask;
import com.sun.source.util.TreePath;
import com.sun.source.util.TreePathScanner;
import com.sun.source.util.Trees;
import java.io.IOException;
import java.nio.file.Path;
import java.util.ArrayList;
import java.util.HashMap;
import java.util.List;
import java.util.Map;
import java.util.Set;
import java.util.TreeMap;
import java.util.TreeSet;
import javax.lang.model.element.Element;
import javax.lang.model.element.ElementKind;
import javax.lang.model.element.VariableElement;
import javax.tools.JavaCompiler;
import javax.tools.StandardJavaFileManager;
import javax.tools.ToolProvider;

/** The class as the compiler reads it: who calls whom, which types and library it uses, what it makes and divides by. */
final class Written extends TreePathScanner<Void, Void> {
    /** By method, as 'Class.name': what it calls. The initialisers of fields belong to the constructor, '<init>'. */
    final Map<String, Set<String>> calls = new TreeMap<>();
    final Set<String> types = new TreeSet<>();
    final Set<String> divisors = new TreeSet<>();
    final Set<String> casts = new TreeSet<>();
    /** What is handed to constructors, and what methods make, each with where. */
    final List<String> handedOut = new ArrayList<>();
    final List<String> madeByMethods = new ArrayList<>();
    final List<String> joinedTexts = new ArrayList<>();
    final List<String> longMethods = new ArrayList<>();

    private final Map<String, List<String>> longest = new HashMap<>();
    private final Trees trees;
    private final CompilationUnitTree unit;
    private String type = "";
    private String method = "<init>";

    Written(Path source) throws IOException {
        JavaCompiler compiler = ToolProvider.getSystemJavaCompiler();
        try (StandardJavaFileManager files = compiler.getStandardFileManager(null, null, null)) {
            JavacTask task = (JavacTask) compiler.getTask(null, files, null, List.of("-proc:none", "--release", "17"), null,
                files.getJavaFileObjects(source));
            unit = task.parse().iterator().next();
            task.analyze();
            trees = Trees.instance(task);
            scan(unit, null);
        }
    }

    /** All that a method calls, and all that these call. */
    Set<String> reachedFrom(String from) {
        Set<String> reached = new TreeSet<>();
        List<String> open = new ArrayList<>(calls.getOrDefault(from, Set.of()));
        while (!open.isEmpty()) {
            String next = open.remove(open.size() - 1);
            if (reached.add(next)) open.addAll(calls.getOrDefault(next, Set.of()));
        }
        return reached;
    }

    /** The longest chain of calls from a method on, itself the first. No method may come back to itself. */
    List<String> chainFrom(String from) {
        List<String> known = longest.get(from);
        if (known != null) return known;
        List<String> best = List.of();
        for (String called : calls.getOrDefault(from, Set.of())) {
            List<String> chain = chainFrom(called);
            if (chain.size() > best.size()) best = chain;
        }
        List<String> whole = new ArrayList<>(List.of(from));
        whole.addAll(best);
        longest.put(from, whole);
        return whole;
    }

    /** What is called but not written here. */
    Set<String> library() {
        Set<String> used = new TreeSet<>();
        for (Set<String> called : calls.values()) used.addAll(called);
        used.removeAll(calls.keySet());
        return used;
    }

    @Override
    public Void visitClass(ClassTree tree, Void nothing) {
        String outer = type;
        String outerMethod = method;
        type = tree.getSimpleName().toString();
        method = "<init>";
        calls.computeIfAbsent(here(), k -> new TreeSet<>());
        super.visitClass(tree, nothing);
        type = outer;
        method = outerMethod;
        return null;
    }

    @Override
    public Void visitMethod(MethodTree tree, Void nothing) {
        method = tree.getName().toString();
        calls.computeIfAbsent(here(), k -> new TreeSet<>());
        if (tree.getBody() != null && linesOf(tree) > 60) longMethods.add(here());
        super.visitMethod(tree, nothing);
        method = "<init>";
        return null;
    }

    private long linesOf(Tree tree) {
        long from = trees.getSourcePositions().getStartPosition(unit, tree);
        long to = trees.getSourcePositions().getEndPosition(unit, tree);
        return unit.getLineMap().getLineNumber(to) - unit.getLineMap().getLineNumber(Math.max(from, 0)) + 1;
    }

    @Override
    public Void visitMethodInvocation(MethodInvocationTree tree, Void nothing) {
        Element called = trees.getElement(getCurrentPath());
        String owner = called.getEnclosingElement().getSimpleName().toString();
        // the call of Object's constructor stands in every constructor without being written
        if (!owner.equals("Object")) calls.get(here()).add(owner + "." + called.getSimpleName());
        return super.visitMethodInvocation(tree, nothing);
    }

    @Override
    public Void visitNewClass(NewClassTree tree, Void nothing) {
        calls.get(here()).add(tree.getIdentifier() + ".<init>");
        if (!tree.getArguments().isEmpty()) handedOut.add(here() + ": " + tree);
        if (!method.equals("<init>")) madeByMethods.add(here() + ": " + tree);
        return super.visitNewClass(tree, nothing);
    }

    @Override
    public Void visitNewArray(NewArrayTree tree, Void nothing) {
        if (!method.equals("<init>")) madeByMethods.add(here() + ": " + tree);
        return super.visitNewArray(tree, nothing);
    }

    @Override
    public Void visitVariable(VariableTree tree, Void nothing) {
        types.add(tree.getType().toString());
        return super.visitVariable(tree, nothing);
    }

    @Override
    public Void visitTypeCast(TypeCastTree tree, Void nothing) {
        casts.add(tree.getType().toString());
        return super.visitTypeCast(tree, nothing);
    }

    @Override
    public Void visitBinary(BinaryTree tree, Void nothing) {
        if (tree.getKind() == Tree.Kind.DIVIDE || tree.getKind() == Tree.Kind.REMAINDER) divideBy(tree.getRightOperand());
        if (trees.getTypeMirror(getCurrentPath()).toString().equals("java.lang.String")) joinedTexts.add(tree.toString());
        return super.visitBinary(tree, nothing);
    }

    @Override
    public Void visitCompoundAssignment(CompoundAssignmentTree tree, Void nothing) {
        if (tree.getKind() == Tree.Kind.DIVIDE_ASSIGNMENT || tree.getKind() == Tree.Kind.REMAINDER_ASSIGNMENT) {
            divideBy(tree.getExpression());
        }
        return super.visitCompoundAssignment(tree, nothing);
    }

    /** A divisor that is a constant is told by its number, another one as it is written. */
    private void divideBy(ExpressionTree divisor) {
        Element e = trees.getElement(new TreePath(getCurrentPath(), divisor));
        boolean isConstant = e != null && e.getKind() == ElementKind.FIELD && ((VariableElement) e).getConstantValue() != null;
        divisors.add(isConstant ? ((VariableElement) e).getConstantValue().toString() : divisor.toString());
    }

    private String here() {
        return type + "." + method;
    }
}
