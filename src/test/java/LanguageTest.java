import com.sun.source.tree.AssertTree;
import com.sun.source.tree.BinaryTree;
import com.sun.source.tree.ClassTree;
import com.sun.source.tree.CompilationUnitTree;
import com.sun.source.tree.DoWhileLoopTree;
import com.sun.source.tree.ForLoopTree;
import com.sun.source.tree.ImportTree;
import com.sun.source.tree.LambdaExpressionTree;
import com.sun.source.tree.MemberReferenceTree;
import com.sun.source.tree.MethodInvocationTree;
import com.sun.source.tree.MethodTree;
import com.sun.source.tree.NewArrayTree;
import com.sun.source.tree.NewClassTree;
import com.sun.source.tree.SynchronizedTree;
import com.sun.source.tree.ThrowTree;
import com.sun.source.tree.Tree;
import com.sun.source.tree.TryTree;
import com.sun.source.tree.TypeCastTree;
import com.sun.source.tree.VariableTree;
import com.sun.source.tree.WhileLoopTree;
import com.sun.source.util.JavacTask;
import com.sun.source.util.TreePathScanner;
import com.sun.source.util.Trees;
import java.io.IOException;
import java.nio.file.Path;
import java.util.HashMap;
import java.util.List;
import java.util.Map;
import java.util.Set;
import java.util.TreeMap;
import java.util.TreeSet;
import javax.lang.model.element.Element;
import javax.lang.model.element.ElementKind;
import javax.lang.model.element.Modifier;
import javax.lang.model.type.TypeKind;
import javax.tools.JavaCompiler;
import javax.tools.StandardJavaFileManager;
import javax.tools.ToolProvider;

/**
 * The rules of LANGUAGE.md that need the compiler's own reading of the class: what is called, of what types, how deep.
 * It is narrower than the rules where the class needs less than they leave (no list, no text, no while).
 */
public final class LanguageTest {
    private static final Set<String> LIBRARY = Set.of("java.lang.System.arraycopy", "java.lang.Integer.bitCount");
    private static final Set<String> TYPES = Set.of("int", "long", "char", "boolean", "int[]", "long[]", "char[]", "boolean[]");
    private static final Set<String> STATIC_TYPES = Set.of("int", "long", "boolean", "char");
    private static final int MOST_CALLS_DEEP = 8;
    private static final int MOST_METHODS_SEEN = 200;

    private static final Due due = new Due();

    public static void main(String[] args) throws IOException {
        JavaCompiler compiler = ToolProvider.getSystemJavaCompiler();
        try (StandardJavaFileManager files = compiler.getStandardFileManager(null, null, null)) {
            Path source = Path.of(System.getProperty("source", "src/main/java/TermScan.java"));
            JavacTask task = (JavacTask) compiler.getTask(null, files, null, List.of("--release", "17"), null, files.getJavaFileObjects(source));
            Iterable<? extends CompilationUnitTree> units = task.parse();
            task.analyze();
            Reading reading = new Reading(Trees.instance(task));
            for (CompilationUnitTree unit : units) {
                due.is("1: classes of the file", unit.getTypeDecls().size(), 1);
                reading.scan(unit, null);
            }
            due.isTrue("all methods were read", reading.calls.size() > 22);
            for (String method : reading.calls.keySet()) {
                int deep = deepFrom(method, reading.calls, new HashMap<>(), 0);
                due.isTrue("8, 11: " + method + " calls at most eight deep, and never itself: " + deep, deep <= MOST_CALLS_DEEP);
            }
        }
        due.finish("LanguageTest");
    }

    /** The calls that stand open at once, itself among them; far too many, if it comes back to itself. */
    private static int deepFrom(String method, Map<String, Set<String>> calls, Map<String, Integer> known, int above) {
        if (above > MOST_METHODS_SEEN) {
            return MOST_METHODS_SEEN;
        }
        Integer before = known.get(method);
        if (before != null) {
            return before;
        }
        int deepest = 0;
        for (String called : calls.getOrDefault(method, Set.of())) {
            deepest = Math.max(deepest, deepFrom(called, calls, known, above + 1));
        }
        known.put(method, deepest + 1);
        return deepest + 1;
    }

    private static final class Reading extends TreePathScanner<Void, Void> {
        private final Trees trees;
        /** What each method of the file calls of the file. */
        final Map<String, Set<String>> calls = new TreeMap<>();
        private String method = "";
        private boolean constructs = false;

        Reading(Trees trees) {
            this.trees = trees;
        }

        private Element here() {
            return trees.getElement(getCurrentPath());
        }

        private static String nameOf(Element e) {
            return e.getEnclosingElement() + "." + (e.getKind() == ElementKind.CONSTRUCTOR ? "new" : e.getSimpleName());
        }

        private static boolean isOwn(Element e) {
            String owner = e.getEnclosingElement().toString();
            return owner.equals("TermScan") || owner.startsWith("TermScan.");
        }

        private static boolean isOwnType(String type) {
            return type.equals("TermScan") || type.matches("TermScan\\.\\w+(\\[\\])?");
        }

        private void not(String rule, Tree tree) {
            due.isTrue(rule + ", not in the class: " + tree, false);
        }

        @Override
        public Void visitClass(ClassTree tree, Void nothing) {
            Element e = here();
            due.isTrue("2: a class is a member of the class or the class itself: " + e,
                e.getEnclosingElement().getKind() == ElementKind.PACKAGE || isOwn(e) && e.getModifiers().contains(Modifier.STATIC));
            due.isTrue("12: no class has another below it: " + e, e.getModifiers().contains(Modifier.FINAL));
            due.isTrue("2: no class above it: " + e, tree.getExtendsClause() == null && tree.getImplementsClause().isEmpty());
            for (Tree member : tree.getMembers()) {
                due.isTrue("5: no initialiser block in " + e, member.getKind() != Tree.Kind.BLOCK);
            }
            return super.visitClass(tree, nothing);
        }

        @Override
        public Void visitMethod(MethodTree tree, Void nothing) {
            method = nameOf(here());
            constructs = here().getKind() == ElementKind.CONSTRUCTOR;
            due.isTrue("8: " + method + " is there once", calls.put(method, new TreeSet<>()) == null);
            due.isTrue("11: " + method + " takes at most seven", tree.getParameters().size() <= 7);
            due.isTrue("6: " + method + " says nothing of what it throws", tree.getThrows().isEmpty());
            super.visitMethod(tree, nothing);
            method = "";
            return null;
        }

        @Override
        public Void visitVariable(VariableTree tree, Void nothing) {
            Element e = here();
            String type = e.asType().toString();
            due.isTrue("3: the type of " + e + ": " + type, TYPES.contains(type) || isOwnType(type));
            if (e.getModifiers().contains(Modifier.STATIC)) {
                due.isTrue("5: " + e + " is final", e.getModifiers().contains(Modifier.FINAL));
                due.isTrue("5: " + e + " is a constant: " + type, STATIC_TYPES.contains(type));
            }
            return super.visitVariable(tree, nothing);
        }

        @Override
        public Void visitMethodInvocation(MethodInvocationTree tree, Void nothing) {
            Element called = here();
            if (called.getKind() == ElementKind.CONSTRUCTOR) {
                due.isTrue("12: a constructor calls that of Object alone: " + called, nameOf(called).equals("java.lang.Object.new"));
            } else if (isOwn(called)) {
                calls.get(method).add(nameOf(called));
                due.isTrue("12: a constructor calls no method: " + method, !constructs);
            } else {
                due.isTrue("4: the library, " + nameOf(called), LIBRARY.contains(nameOf(called)));
            }
            return super.visitMethodInvocation(tree, nothing);
        }

        @Override
        public Void visitNewClass(NewClassTree tree, Void nothing) {
            Element made = here();
            due.isTrue("3: made, " + made.getEnclosingElement(), isOwn(made) && tree.getClassBody() == null);
            due.isTrue("12: objects are made in constructors alone, not in " + method, constructs);
            calls.get(method).add(nameOf(made));
            return super.visitNewClass(tree, nothing);
        }

        @Override
        public Void visitNewArray(NewArrayTree tree, Void nothing) {
            due.isTrue("12: rows are made in constructors alone, not in " + method, constructs);
            due.isTrue("3: rows of one dimension", tree.getDimensions().size() == 1);
            return super.visitNewArray(tree, nothing);
        }

        @Override
        public Void visitForLoop(ForLoopTree tree, Void nothing) {
            due.isTrue("9: a loop counts up or down to a bound, in " + method, tree.getInitializer().size() == 1
                && tree.getCondition() != null && tree.getUpdate().size() == 1);
            return super.visitForLoop(tree, nothing);
        }

        @Override
        public Void visitBinary(BinaryTree tree, Void nothing) {
            TypeKind kind = trees.getTypeMirror(getCurrentPath()).getKind();
            due.isTrue("10: numbers and truths alone: " + tree, kind.isPrimitive());
            return super.visitBinary(tree, nothing);
        }

        @Override
        public Void visitTypeCast(TypeCastTree tree, Void nothing) {
            due.isTrue("6: casts of numbers alone: " + tree, trees.getTypeMirror(getCurrentPath()).getKind().isPrimitive());
            return super.visitTypeCast(tree, nothing);
        }

        @Override
        public Void visitWhileLoop(WhileLoopTree tree, Void nothing) {
            not("9", tree);
            return null;
        }

        @Override
        public Void visitDoWhileLoop(DoWhileLoopTree tree, Void nothing) {
            not("9", tree);
            return null;
        }

        @Override
        public Void visitLambdaExpression(LambdaExpressionTree tree, Void nothing) {
            not("2", tree);
            return null;
        }

        @Override
        public Void visitMemberReference(MemberReferenceTree tree, Void nothing) {
            not("2", tree);
            return null;
        }

        @Override
        public Void visitImport(ImportTree tree, Void nothing) {
            not("4", tree);
            return null;
        }

        @Override
        public Void visitThrow(ThrowTree tree, Void nothing) {
            not("6", tree);
            return null;
        }

        @Override
        public Void visitTry(TryTree tree, Void nothing) {
            not("6", tree);
            return null;
        }

        @Override
        public Void visitSynchronized(SynchronizedTree tree, Void nothing) {
            not("6", tree);
            return null;
        }

        @Override
        public Void visitAssert(AssertTree tree, Void nothing) {
            not("6", tree);
            return null;
        }
    }
}
