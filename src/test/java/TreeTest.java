import com.sun.source.tree.AssertTree;
import com.sun.source.tree.BinaryTree;
import com.sun.source.tree.ClassTree;
import com.sun.source.tree.CompilationUnitTree;
import com.sun.source.tree.InstanceOfTree;
import com.sun.source.tree.LambdaExpressionTree;
import com.sun.source.tree.MemberReferenceTree;
import com.sun.source.tree.MethodInvocationTree;
import com.sun.source.tree.MethodTree;
import com.sun.source.tree.NewArrayTree;
import com.sun.source.tree.NewClassTree;
import com.sun.source.tree.SynchronizedTree;
import com.sun.source.tree.ThrowTree;
import com.sun.source.tree.Tree;
import com.sun.source.tree.TryTree;
import com.sun.source.tree.TypeCastTree;
import com.sun.source.tree.VariableTree;
import com.sun.source.util.JavacTask;
import com.sun.source.util.TreePathScanner;
import com.sun.source.util.Trees;
import java.nio.file.Path;
import java.util.HashMap;
import java.util.HashSet;
import java.util.Map;
import java.util.Set;
import java.util.TreeSet;
import javax.lang.model.element.Element;
import javax.lang.model.element.ElementKind;
import javax.lang.model.element.Modifier;
import javax.lang.model.type.TypeKind;
import javax.lang.model.type.TypeMirror;
import javax.tools.JavaCompiler;
import javax.tools.StandardJavaFileManager;
import javax.tools.ToolProvider;

/** The rules of LANGUAGE.md that the compiler's own tree of the class shows: calls, types, objects made, depth. */
public final class TreeTest extends TreePathScanner<Void, Void> {
    private static final Check CHECK = new Check();
    /** What is used of rule 4; more of it may be added here. */
    private static final Set<String> LIBRARY = Set.of("java.lang.String.indexOf(int)", "java.lang.Math.min(int,int)",
            "java.lang.Math.max(int,int)",
            "java.lang.System.arraycopy(java.lang.Object,int,java.lang.Object,int,int)");
    private static final Set<String> RECURSIVE = Set.of("DeadLasts.Storm.comingFrom(int,long)",
            "DeadLasts.Matching.finds(int,int)");
    private static final int DEEPEST = 8;

    private final Trees trees;
    private final Map<String, Set<String>> calls = new HashMap<>();
    private final Set<String> recursive = new TreeSet<>();
    private String method = "";

    private TreeTest(Trees trees) {
        this.trees = trees;
    }

    public static void main(String[] args) throws Exception {
        JavaCompiler compiler = ToolProvider.getSystemJavaCompiler();
        try (StandardJavaFileManager files = compiler.getStandardFileManager(null, null, null)) {
            JavacTask task = (JavacTask) compiler.getTask(null, files, null, null, null,
                    files.getJavaFileObjects(Path.of("src/main/java/DeadLasts.java")));
            Iterable<? extends CompilationUnitTree> units = task.parse();
            task.analyze();
            TreeTest test = new TreeTest(Trees.instance(task));
            test.scan(units, null);
            test.depths();
        }
        CHECK.finish();
    }

    private Element element() {
        return trees.getElement(getCurrentPath());
    }

    private static String named(Element method) {
        return method.getEnclosingElement() + "." + method;
    }

    private void never(String what, Tree tree) {
        CHECK.yes("no " + what + " in " + method + ": " + tree, false);
    }

    @Override
    public Void visitMethod(MethodTree tree, Void none) {
        String outer = method;
        method = named(element());
        calls.putIfAbsent(method, new HashSet<>());
        CHECK.yes(method + ": seven parameters at most", tree.getParameters().size() <= 7);
        super.visitMethod(tree, none);
        method = outer;
        return null;
    }

    @Override
    public Void visitMethodInvocation(MethodInvocationTree tree, Void none) {
        Element called = trees.getElement(getCurrentPath());
        String name = named(called);
        boolean isSuper = tree.getMethodSelect().toString().equals("super");
        if (name.startsWith("DeadLasts")) {
            calls.computeIfAbsent(method, m -> new HashSet<>()).add(name);
        } else {
            CHECK.yes("the library has " + name + ", in " + method, isSuper || LIBRARY.contains(name));
        }
        return super.visitMethodInvocation(tree, none);
    }

    /** No call makes an object: constructors and first values of fields alone do. */
    private boolean isMaking() {
        return method.isEmpty() || isConstructor(method);
    }

    private static boolean isConstructor(String method) {
        String[] parts = method.substring(0, method.indexOf('(')).split("\\.");
        return parts[parts.length - 1].equals(parts[parts.length - 2]);
    }

    @Override
    public Void visitNewClass(NewClassTree tree, Void none) {
        CHECK.yes(method + " makes objects: " + tree, isMaking());
        CHECK.yes("no class without a name: " + tree, tree.getClassBody() == null);
        Element made = trees.getElement(getCurrentPath());
        CHECK.yes("of one's own: " + tree, named(made).startsWith("DeadLasts"));
        calls.computeIfAbsent(method, m -> new HashSet<>()).add(named(made));
        return super.visitNewClass(tree, none);
    }

    @Override
    public Void visitNewArray(NewArrayTree tree, Void none) {
        CHECK.yes(method + " makes arrays: " + tree, isMaking());
        return super.visitNewArray(tree, none);
    }

    @Override
    public Void visitVariable(VariableTree tree, Void none) {
        Element variable = element();
        String type = variable.asType().toString();
        CHECK.yes("the type of " + tree, type.matches("(int|long|char|boolean|java.lang.String|DeadLasts\\.\\w+)(\\[\\])?"));
        if (variable.getKind() == ElementKind.FIELD && variable.getModifiers().contains(Modifier.STATIC)) {
            CHECK.yes("static and final: " + tree, variable.getModifiers().contains(Modifier.FINAL));
            CHECK.yes("a number, a text or a row of numbers: " + tree, type.matches("int|char|java.lang.String|int\\[\\]"));
            CHECK.yes("written out: " + tree, !type.endsWith("]")
                    || tree.getInitializer() instanceof NewArrayTree row && row.getInitializers() != null);
        }
        return super.visitVariable(tree, none);
    }

    @Override
    public Void visitClass(ClassTree tree, Void none) {
        Element type = element();
        if (!type.getSimpleName().contentEquals("DeadLasts")) {
            CHECK.yes("static, inside: " + type, type.getModifiers().contains(Modifier.STATIC)
                    && type.getModifiers().contains(Modifier.PRIVATE));
            CHECK.yes("not inside a method: " + type, method.isEmpty());
        }
        return super.visitClass(tree, none);
    }

    @Override
    public Void visitTypeCast(TypeCastTree tree, Void none) {
        TypeMirror to = trees.getTypeMirror(getCurrentPath());
        CHECK.yes("a cast of numbers alone: " + tree, to.getKind().isPrimitive());
        return super.visitTypeCast(tree, none);
    }

    @Override
    public Void visitBinary(BinaryTree tree, Void none) {
        TypeMirror type = trees.getTypeMirror(getCurrentPath());
        CHECK.yes("texts are not joined by +: " + tree, type.getKind() != TypeKind.DECLARED);
        return super.visitBinary(tree, none);
    }

    @Override
    public Void visitThrow(ThrowTree tree, Void none) {
        never("throw", tree);
        return null;
    }

    @Override
    public Void visitTry(TryTree tree, Void none) {
        never("try", tree);
        return null;
    }

    @Override
    public Void visitLambdaExpression(LambdaExpressionTree tree, Void none) {
        never("lambda", tree);
        return null;
    }

    @Override
    public Void visitMemberReference(MemberReferenceTree tree, Void none) {
        never("method reference", tree);
        return null;
    }

    @Override
    public Void visitSynchronized(SynchronizedTree tree, Void none) {
        never("synchronized", tree);
        return null;
    }

    @Override
    public Void visitAssert(AssertTree tree, Void none) {
        never("assert", tree);
        return null;
    }

    @Override
    public Void visitInstanceOf(InstanceOfTree tree, Void none) {
        never("instanceof", tree);
        return null;
    }

    private void depths() {
        for (String start : calls.keySet()) {
            int depth = depth(start, new HashSet<>());
            CHECK.yes(start + " goes " + depth + " deep", depth <= DEEPEST);
        }
        CHECK.yes("what calls itself: " + recursive, recursive.equals(new TreeSet<>(RECURSIVE)));
    }

    /** How many calls stand open at once, at most, a method that calls itself being one. */
    private int depth(String start, Set<String> open) {
        open.add(start);
        int deepest = 0;
        for (String called : calls.getOrDefault(start, Set.of())) {
            if (open.contains(called)) {
                CHECK.yes(start + " calls itself alone, not " + called, called.equals(start));
                recursive.add(called);
            } else {
                deepest = Math.max(deepest, depth(called, open));
            }
        }
        open.remove(start);
        return deepest + 1;
    }
}
