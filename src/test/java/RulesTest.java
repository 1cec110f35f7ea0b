import com.sun.source.tree.BinaryTree;
import com.sun.source.tree.CompilationUnitTree;
import com.sun.source.tree.MethodInvocationTree;
import com.sun.source.tree.MethodTree;
import com.sun.source.tree.NewArrayTree;
import com.sun.source.tree.NewClassTree;
import com.sun.source.tree.ThrowTree;
import com.sun.source.tree.Tree;
import com.sun.source.tree.TypeCastTree;
import com.sun.source.util.JavacTask;
import com.sun.source.util.TreePath;
import com.sun.source.util.TreePathScanner;
import com.sun.source.util.Trees;
import java.nio.file.Path;
import java.util.EnumSet;
import java.util.LinkedHashMap;
import java.util.LinkedHashSet;
import java.util.Map;
import java.util.Set;
import javax.lang.model.element.Element;
import javax.lang.model.element.ElementKind;
import javax.lang.model.element.Modifier;
import javax.lang.model.type.TypeKind;
import javax.tools.JavaCompiler;
import javax.tools.StandardJavaFileManager;
import javax.tools.ToolProvider;

/** Those rules of LANGUAGE.md that can be seen from the source as javac reads it: what calls what, and what is made. */
public final class RulesTest {
    private static final int DEEPEST = 8;
    private static final Set<String> LIBRARY = Set.of("java.lang.String.indexOf", "java.lang.Integer.compare",
            "java.lang.Integer.bitCount", "java.lang.Math.abs", "java.lang.Math.max");
    private static final Set<Tree.Kind> NEVER = EnumSet.of(Tree.Kind.LAMBDA_EXPRESSION, Tree.Kind.MEMBER_REFERENCE,
            Tree.Kind.TRY, Tree.Kind.SYNCHRONIZED, Tree.Kind.ASSERT, Tree.Kind.SWITCH_EXPRESSION, Tree.Kind.ENHANCED_FOR_LOOP,
            Tree.Kind.DOUBLE_LITERAL, Tree.Kind.FLOAT_LITERAL, Tree.Kind.INSTANCE_OF, Tree.Kind.ANNOTATION);

    private static final Due due = new Due("rules");
    private static final Map<Element, Set<Element>> calls = new LinkedHashMap<>();
    private static int methods;

    public static void main(String[] args) throws Exception {
        JavaCompiler compiler = ToolProvider.getSystemJavaCompiler();
        StandardJavaFileManager files = compiler.getStandardFileManager(null, null, null);
        JavacTask task = (JavacTask) compiler.getTask(null, files, null, null, null,
                files.getJavaFileObjects(Path.of("src/main/java/NamesOnLetters.java")));
        Iterable<? extends CompilationUnitTree> units = task.parse();
        task.analyze();
        for (CompilationUnitTree unit : units) {
            new Seen(Trees.instance(task)).scan(unit, null);
        }
        due.is("more than a hundred methods are seen", methods > 100, true);
        due.says("calls that are no recursion go at most eight deep");
        for (Element method : calls.keySet()) {
            if (method.getModifiers().contains(Modifier.PUBLIC)) {
                int deep = depth(method, new LinkedHashSet<>());
                due.is(method + " goes " + deep + " deep", deep <= DEEPEST, true);
            }
        }
        due.end();
    }

    /** How many calls stand open at once below and with this one; open are those that lead to it. */
    private static int depth(Element method, Set<Element> open) {
        boolean again = !open.add(method);
        due.is(method + " calls itself", again, false);
        int most = 0;
        for (Element called : again ? Set.<Element>of() : calls.getOrDefault(method, Set.of())) {
            most = Math.max(most, depth(called, open));
        }
        open.remove(method);
        return most + 1;
    }

    private static final class Seen extends TreePathScanner<Void, Void> {
        private final Trees trees;

        private Seen(Trees trees) {
            this.trees = trees;
        }

        @Override
        public Void scan(Tree tree, Void none) {
            if (tree != null) {
                due.says("the Java that the program keeps to");
                due.is("a " + tree.getKind() + " stands", NEVER.contains(tree.getKind()), false);
            }
            return super.scan(tree, none);
        }

        @Override
        public Void visitMethod(MethodTree method, Void none) {
            calls.put(trees.getElement(getCurrentPath()), new LinkedHashSet<>());
            methods++;
            return super.visitMethod(method, none);
        }

        @Override
        public Void visitMethodInvocation(MethodInvocationTree call, Void none) {
            Element called = trees.getElement(new TreePath(getCurrentPath(), call.getMethodSelect()));
            String from = called.getEnclosingElement().toString();
            if (from.startsWith("NamesOnLetters")) {
                note(called);
            } else if (called.getKind() == ElementKind.METHOD) {
                due.says("the library: only what stands here");
                String name = from + "." + called.getSimpleName();
                due.is(name, LIBRARY.contains(name), true);
            }
            return super.visitMethodInvocation(call, none);
        }

        private void note(Element called) {
            Element by = caller();
            if (by != null) {
                calls.get(by).add(called);
            }
        }

        /** The method or constructor that is being read; null in a field's first value. */
        private Element caller() {
            for (TreePath path = getCurrentPath(); path != null; path = path.getParentPath()) {
                if (path.getLeaf() instanceof MethodTree) {
                    return trees.getElement(path);
                }
            }
            return null;
        }

        private boolean inMethod() {
            Element by = caller();
            return by != null && by.getKind() == ElementKind.METHOD;
        }

        @Override
        public Void visitNewClass(NewClassTree made, Void none) {
            boolean thrown = getCurrentPath().getParentPath().getLeaf() instanceof ThrowTree;
            due.says("rows are made in constructors, and used again");
            due.is(made + " in a method", inMethod() && !thrown, false);
            due.is(made + " has a body of its own", made.getClassBody() != null, false);
            return super.visitNewClass(made, none);
        }

        @Override
        public Void visitNewArray(NewArrayTree made, Void none) {
            due.says("rows are made in constructors, and used again");
            due.is(made + " in a method", inMethod(), false);
            return super.visitNewArray(made, none);
        }

        @Override
        public Void visitThrow(ThrowTree thrown, Void none) {
            due.says("no throw in a constructor; what is thrown is written there");
            due.is(thrown + " in a method", inMethod(), true);
            due.is(thrown + " is new", thrown.getExpression() instanceof NewClassTree, true);
            return super.visitThrow(thrown, none);
        }

        @Override
        public Void visitBinary(BinaryTree binary, Void none) {
            due.says("texts are not joined by +, and not compared by ==");
            due.is(binary + " is of numbers", trees.getTypeMirror(getCurrentPath()).getKind().isPrimitive(), true);
            TreePath left = new TreePath(getCurrentPath(), binary.getLeftOperand());
            due.is(binary + " is of numbers", trees.getTypeMirror(left).getKind().isPrimitive(), true);
            return super.visitBinary(binary, none);
        }

        @Override
        public Void visitTypeCast(TypeCastTree cast, Void none) {
            due.says("a cast only behind the test that makes it safe");
            TypeKind to = trees.getTypeMirror(getCurrentPath()).getKind();
            due.is(cast + " is to a number", to.isPrimitive(), true);
            return super.visitTypeCast(cast, none);
        }
    }
}
