import com.sun.source.tree.ClassTree;
import com.sun.source.tree.CompilationUnitTree;
import com.sun.source.tree.DoWhileLoopTree;
import com.sun.source.tree.EnhancedForLoopTree;
import com.sun.source.tree.ForLoopTree;
import com.sun.source.tree.LambdaExpressionTree;
import com.sun.source.tree.MemberReferenceTree;
import com.sun.source.tree.MethodInvocationTree;
import com.sun.source.tree.MethodTree;
import com.sun.source.tree.NewArrayTree;
import com.sun.source.tree.NewClassTree;
import com.sun.source.tree.Tree;
import com.sun.source.tree.TypeCastTree;
import com.sun.source.tree.WhileLoopTree;
import com.sun.source.util.JavacTask;
import com.sun.source.util.TreePathScanner;
import com.sun.source.util.Trees;
import java.io.IOException;
import java.nio.file.Path;
import java.util.ArrayList;
import java.util.HashMap;
import java.util.LinkedHashSet;
import java.util.List;
import java.util.Map;
import java.util.Set;
import java.util.TreeSet;
import javax.lang.model.element.Element;
import javax.lang.model.element.ExecutableElement;
import javax.lang.model.element.Modifier;
import javax.lang.model.type.TypeMirror;
import javax.tools.JavaCompiler;
import javax.tools.StandardJavaFileManager;
import javax.tools.ToolProvider;

/** LANGUAGE.md as the compiler sees the class: who calls whom, how deep, and what of the library. */
public final class CallTest extends TreePathScanner<Void, String> {
    private static final Harness T = new Harness("CallTest");
    private static final Set<String> LIBRARY = Set.of("String.charAt", "String.indexOf", "Integer.bitCount",
        "Math.min", "System.arraycopy");
    private static final int DEEPEST = 8;

    private final Trees trees;
    private final Map<String, Set<String>> calls = new HashMap<>();
    private final Set<String> library = new TreeSet<>();
    private final Set<String> privateOnes = new TreeSet<>();
    private int loops = 0;

    private CallTest(Trees trees) {
        this.trees = trees;
    }

    public static void main(String[] args) throws IOException {
        JavaCompiler compiler = ToolProvider.getSystemJavaCompiler();
        try (StandardJavaFileManager files = compiler.getStandardFileManager(null, null, null)) {
            JavacTask task = (JavacTask) compiler.getTask(null, files, null, List.of("-proc:none"), null,
                files.getJavaFileObjects(Path.of("src/main/java/QuarterBoards.java")));
            CallTest test = new CallTest(Trees.instance(task));
            List<CompilationUnitTree> units = new ArrayList<>();
            task.parse().forEach(units::add);
            task.analyze();
            units.forEach(unit -> test.scan(unit, ""));
            test.check();
        }
        T.finish();
    }

    private void check() {
        library.removeAll(LIBRARY);
        T.due("calls of the library that are not looked at yet: " + library, library.size(), 0);
        T.due("methods that are seen", calls.size() > 100, true);
        T.due("loops that are seen", loops > 50, true);
        for (String method : calls.keySet()) {
            List<String> deepest = deepestFrom(method, new LinkedHashSet<>());
            T.due("calls that go at most eight deep: " + deepest, deepest.size() <= DEEPEST, true);
        }
        T.due("methods that may come back to themselves", recursive().toString(),
            "[Builder.makePart, Builder.makeUnit, Builder.sumUp, Filler.search, Filler.tryBoard]");
        T.due("recursion goes through private methods alone", privateOnes.containsAll(recursive()), true);
    }

    // Rule 11: a round of a recursion counts once, as no method stands twice on a way.
    private List<String> deepestFrom(String method, LinkedHashSet<String> open) {
        open.add(method);
        List<String> deepest = List.of();
        for (String next : calls.getOrDefault(method, Set.of())) {
            if (!open.contains(next)) {
                List<String> way = deepestFrom(next, open);
                deepest = way.size() > deepest.size() ? way : deepest;
            }
        }
        open.remove(method);
        List<String> whole = new ArrayList<>(List.of(method));
        whole.addAll(deepest);
        return whole;
    }

    // Rule 8: only these two rounds are guarded by a depth.
    private Set<String> recursive() {
        Set<String> found = new TreeSet<>();
        for (String method : calls.keySet()) {
            Set<String> reached = new LinkedHashSet<>(calls.get(method));
            List<String> open = new ArrayList<>(reached);
            while (!open.isEmpty()) {
                for (String next : calls.getOrDefault(open.remove(open.size() - 1), Set.of())) {
                    if (reached.add(next)) {
                        open.add(next);
                    }
                }
            }
            if (reached.contains(method)) {
                found.add(method);
            }
        }
        return found;
    }

    private static String nameOf(ExecutableElement method) {
        return method.getEnclosingElement().getSimpleName() + "." + method.getSimpleName();
    }

    private Element elementHere() {
        return trees.getElement(getCurrentPath());
    }

    @Override
    public Void visitMethod(MethodTree tree, String in) {
        ExecutableElement method = (ExecutableElement) elementHere();
        String name = nameOf(method);
        T.due("two methods of one name: " + name, calls.containsKey(name), false);
        calls.put(name, new LinkedHashSet<>());
        if (method.getModifiers().contains(Modifier.PRIVATE)) {
            privateOnes.add(name);
        }
        T.due(name + " has at most seven parameters", tree.getParameters().size() <= 7, true);
        return super.visitMethod(tree, name);
    }

    @Override
    public Void visitMethodInvocation(MethodInvocationTree tree, String in) {
        ExecutableElement callee = (ExecutableElement) elementHere();
        String owner = callee.getEnclosingElement().toString();
        if (owner.startsWith("QuarterBoards")) {
            calls.computeIfAbsent(in, k -> new LinkedHashSet<>()).add(nameOf(callee));
        } else if (!callee.getSimpleName().contentEquals("<init>")) {
            library.add(nameOf(callee));
        }
        return super.visitMethodInvocation(tree, in);
    }

    // Rule 12, and the one room: what is made is made with the house.
    @Override
    public Void visitNewClass(NewClassTree tree, String in) {
        T.due("an object made in " + in, in.isEmpty() || in.endsWith(".<init>"), true);
        T.due("an argument of a constructor in " + in, tree.getArguments().size(), 0);
        return super.visitNewClass(tree, in);
    }

    @Override
    public Void visitNewArray(NewArrayTree tree, String in) {
        T.due("an array made in " + in, in.isEmpty() || in.endsWith(".<init>"), true);
        return super.visitNewArray(tree, in);
    }

    // Rule 6: a cast of an object needs a test ahead; there is none.
    @Override
    public Void visitTypeCast(TypeCastTree tree, String in) {
        TypeMirror type = trees.getTypeMirror(getCurrentPath());
        T.due("a cast to " + type + " in " + in, type.getKind().isPrimitive(), true);
        return super.visitTypeCast(tree, in);
    }

    // Rule 9: every loop has a condition with a bound in its own head.
    @Override
    public Void visitForLoop(ForLoopTree tree, String in) {
        loops++;
        String condition = String.valueOf(tree.getCondition());
        T.due("a loop's bound in " + in + ": " + condition, condition.matches(".*(<|<=|>=|>) .*"), true);
        T.due("a loop's counter in " + in + " goes on", tree.getUpdate().size(), 1);
        return super.visitForLoop(tree, in);
    }

    @Override
    public Void visitWhileLoop(WhileLoopTree tree, String in) {
        return refuse(tree, in);
    }

    @Override
    public Void visitDoWhileLoop(DoWhileLoopTree tree, String in) {
        return refuse(tree, in);
    }

    @Override
    public Void visitEnhancedForLoop(EnhancedForLoopTree tree, String in) {
        return refuse(tree, in);
    }

    @Override
    public Void visitLambdaExpression(LambdaExpressionTree tree, String in) {
        return refuse(tree, in);
    }

    @Override
    public Void visitMemberReference(MemberReferenceTree tree, String in) {
        return refuse(tree, in);
    }

    @Override
    public Void visitClass(ClassTree tree, String in) {
        T.due("a class without a name or within a method of " + in, in, "");
        return super.visitClass(tree, in);
    }

    private static Void refuse(Tree tree, String in) {
        T.due(tree.getKind() + " in " + in, true, false);
        return null;
    }
}
