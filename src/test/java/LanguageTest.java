import com.sun.source.tree.AssertTree;
import com.sun.source.tree.AssignmentTree;
import com.sun.source.tree.BinaryTree;
import com.sun.source.tree.BlockTree;
import com.sun.source.tree.ClassTree;
import com.sun.source.tree.CompilationUnitTree;
import com.sun.source.tree.DoWhileLoopTree;
import com.sun.source.tree.ExpressionTree;
import com.sun.source.tree.ForLoopTree;
import com.sun.source.tree.IdentifierTree;
import com.sun.source.tree.InstanceOfTree;
import com.sun.source.tree.LambdaExpressionTree;
import com.sun.source.tree.LiteralTree;
import com.sun.source.tree.MemberReferenceTree;
import com.sun.source.tree.MemberSelectTree;
import com.sun.source.tree.MethodInvocationTree;
import com.sun.source.tree.MethodTree;
import com.sun.source.tree.NewArrayTree;
import com.sun.source.tree.NewClassTree;
import com.sun.source.tree.ParenthesizedTree;
import com.sun.source.tree.SynchronizedTree;
import com.sun.source.tree.ThrowTree;
import com.sun.source.tree.Tree;
import com.sun.source.tree.TryTree;
import com.sun.source.tree.TypeCastTree;
import com.sun.source.tree.VariableTree;
import com.sun.source.tree.WhileLoopTree;
import com.sun.source.util.JavacTask;
import com.sun.source.util.TreePath;
import com.sun.source.util.TreePathScanner;
import com.sun.source.util.Trees;
import java.io.IOException;
import java.net.URI;
import java.nio.file.Files;
import java.nio.file.Path;
import java.util.HashSet;
import java.util.List;
import java.util.Map;
import java.util.Set;
import java.util.TreeMap;
import java.util.TreeSet;
import javax.lang.model.element.Element;
import javax.lang.model.element.Modifier;
import javax.lang.model.element.TypeElement;
import javax.lang.model.element.VariableElement;
import javax.lang.model.type.ArrayType;
import javax.lang.model.type.TypeKind;
import javax.lang.model.type.TypeMirror;
import javax.tools.JavaFileObject;
import javax.tools.SimpleJavaFileObject;
import javax.tools.ToolProvider;

/**
 * The rules of LANGUAGE.md that can be seen in the source; FaceTest looks at the public members,
 * LimitsTest at rule 7. Rule 4 is taken in its easiest form: all arrays in the fields' initialisers.
 */
public final class LanguageTest {
    public static void main(String[] args) throws IOException {
        theClassKeepsToTheRules();
        breachesAreSeen();
        Check.end();
    }

    private static void theClassKeepsToTheRules() throws IOException {
        String source = Files.readString(Path.of("src/main/java/MixfixReader.java"));
        Check.same("breaches", breaches(source).toString(), "[]");
    }

    /** Without these the check above could be blind. */
    private static void breachesAreSeen() throws IOException {
        breach("", "");
        breach("1", "private static class B { }");
        breach("1", "private int size(int k) { return k; }");
        breach("2", "private int f() { double d = 1; return 1; }");
        breach("2", "private final int[][] b = {};");
        breach("2", "private int f() { String s; return 1; }");
        breach("2", "private boolean f() { return \"\" == \"\"; }");
        breach("3", "private int f() { return Math.abs(n); }");
        breach("3", "private int f() { return hashCode(); }");
        breach("4", "private final int[] b = {1, 2};");
        breach("4", "private final int[] b = new int[0];");
        breach("4", "private void f() { int[] b = new int[4]; }");
        breach("4", "private int[] f() { return a; }");
        breach("4", "private boolean f(int[] b) { return a == b; }");
        breach("4", "private int[] b = new int[4]; private void f() { b = a; }");
        breach("5", "private static int s = 1;");
        breach("5", "private static final boolean S = true;");
        breach("5", "static { }");
        breach("6", "private void f() { try { n = 1; } finally { n = 2; } }");
        breach("6", "private void f() { assert n == 0; }");
        breach("6", "private void f() { synchronized (a) { n = 1; } }");
        breach("8", "private void f() { f(); }");
        breach("8", "private void f() { g(); } private void g() { f(); }");
        breach("8", "private void f() { while (true) { n = 1; } }");
        breach("8", "private void f() { do { n = 1; } while (n == 1); }");
        breach("8", "private void f() { for (;;) { n = 1; } }");
        breach("10", "private int f(int k) { return k; } private int g() { return f(f(1)); }");
        breach("10", "private void f(int b, int c, int d, int e, int g, int h, int i, int j) { }");
        breach("10", "private void f() {" + "\n".repeat(61) + "}");
        breach("10", "private void b() { c(); } private void c() { d(); } private void d() { e(); }"
                + "private void e() { f(); } private void f() { g(); } private void g() { }"
                + "private void h() { b(); }");
    }

    private static void breach(String rule, String members) throws IOException {
        Set<String> found = breaches("public final class MixfixReader { private final int[] a = new int[4];\n"
                + "private int n = 0; public int size() { return n; }\n" + members + "\n}");
        Check.same(members, rule.isEmpty() ? found.isEmpty() : found.toString().contains("rule " + rule + ":"), true);
    }

    private static Set<String> breaches(String source) throws IOException {
        JavaFileObject file = new SimpleJavaFileObject(URI.create("string:///MixfixReader.java"), JavaFileObject.Kind.SOURCE) {
            @Override
            public CharSequence getCharContent(boolean ignored) {
                return source;
            }
        };
        JavacTask task = (JavacTask) ToolProvider.getSystemJavaCompiler().getTask(null, null, null, null, null, List.of(file));
        CompilationUnitTree unit = task.parse().iterator().next();
        task.analyze();
        Rules rules = new Rules(Trees.instance(task), unit);
        rules.scan(unit, null);
        rules.lookAtCalls();
        return rules.found;
    }

    private static final class Rules extends TreePathScanner<Void, Void> {
        final Set<String> found = new TreeSet<>();
        private final Trees trees;
        private final CompilationUnitTree unit;
        private final Map<String, Set<String>> callsOf = new TreeMap<>();
        private final Set<String> publicNames = new HashSet<>();
        private final Set<String> privateNames = new HashSet<>();
        private String method = "";
        private boolean inArguments = false;
        private int fields = 0;

        Rules(Trees trees, CompilationUnitTree unit) {
            this.trees = trees;
            this.unit = unit;
        }

        private Void breaks(int rule, Tree tree) {
            long line = unit.getLineMap().getLineNumber(trees.getSourcePositions().getStartPosition(unit, tree));
            found.add("rule " + rule + ": line " + line);
            return null;
        }

        private Element elementOf(Tree tree) {
            return trees.getElement(new TreePath(getCurrentPath(), tree));
        }

        private boolean isArray(Tree tree) {
            TypeMirror type = trees.getTypeMirror(new TreePath(getCurrentPath(), tree));
            return type != null && type.getKind() == TypeKind.ARRAY;
        }

        private static boolean isAllowed(TypeMirror type) {
            TypeMirror part = type.getKind() == TypeKind.ARRAY ? ((ArrayType) type).getComponentType() : type;
            return part.getKind().isPrimitive() && part.getKind() != TypeKind.FLOAT && part.getKind() != TypeKind.DOUBLE;
        }

        // Rules 1 to 3

        @Override
        public Void visitCompilationUnit(CompilationUnitTree tree, Void p) {
            if (tree.getPackage() != null || !tree.getImports().isEmpty() || tree.getTypeDecls().size() != 1) {
                breaks(1, tree);
            }
            return super.visitCompilationUnit(tree, p);
        }

        @Override
        public Void visitClass(ClassTree tree, Void p) {
            if (getCurrentPath().getParentPath().getLeaf() != unit || tree.getExtendsClause() != null
                    || !tree.getImplementsClause().isEmpty()) {
                breaks(1, tree);
            }
            return super.visitClass(tree, p);
        }

        @Override
        public Void visitIdentifier(IdentifierTree tree, Void p) {
            Element element = trees.getElement(getCurrentPath());
            return element instanceof TypeElement ? breaks(3, tree) : null;
        }

        @Override
        public Void visitMemberSelect(MemberSelectTree tree, Void p) {
            boolean length = tree.getIdentifier().contentEquals("length") && isArray(tree.getExpression());
            boolean own = tree.getExpression().toString().equals("this");
            if (!length && !own) {
                breaks(3, tree);
            }
            return super.visitMemberSelect(tree, p);
        }

        @Override
        public Void visitLiteral(LiteralTree tree, Void p) {
            switch (tree.getKind()) {
                case STRING_LITERAL, FLOAT_LITERAL, DOUBLE_LITERAL, NULL_LITERAL:
                    return breaks(2, tree);
                default:
                    return null;
            }
        }

        @Override
        public Void visitVariable(VariableTree tree, Void p) {
            VariableElement element = (VariableElement) trees.getElement(getCurrentPath());
            if (!isAllowed(element.asType())) {
                breaks(2, tree);
            }
            if (element.getModifiers().contains(Modifier.STATIC)) {
                TypeKind kind = element.asType().getKind();
                if (element.getConstantValue() == null || kind != TypeKind.INT && kind != TypeKind.LONG) {
                    breaks(5, tree);
                }
            } else if (method.isEmpty()) {
                fields++;
            }
            return super.visitVariable(tree, p);
        }

        // Rule 4

        @Override
        public Void visitNewClass(NewClassTree tree, Void p) {
            return breaks(4, tree);
        }

        @Override
        public Void visitNewArray(NewArrayTree tree, Void p) {
            boolean inField = method.isEmpty() && getCurrentPath().getParentPath().getLeaf() instanceof VariableTree;
            if (!inField || tree.getDimensions().size() != 1 || !isLength(tree.getDimensions().get(0))) {
                breaks(4, tree);
            }
            return super.visitNewArray(tree, p);
        }

        private boolean isLength(ExpressionTree tree) {
            Object number = tree instanceof LiteralTree literal ? literal.getValue()
                    : elementOf(tree) instanceof VariableElement variable ? variable.getConstantValue() : null;
            return number instanceof Integer length && length >= 1;
        }

        @Override
        public Void visitAssignment(AssignmentTree tree, Void p) {
            if (isArray(tree.getVariable())) {
                breaks(4, tree);
            }
            return super.visitAssignment(tree, p);
        }

        @Override
        public Void visitBinary(BinaryTree tree, Void p) {
            if (isArray(tree.getLeftOperand()) || isArray(tree.getRightOperand())) {
                breaks(4, tree);
            }
            return super.visitBinary(tree, p);
        }

        // Rules 5 and 6

        @Override
        public Void visitBlock(BlockTree tree, Void p) {
            return tree.isStatic() ? breaks(5, tree) : super.visitBlock(tree, p);
        }

        @Override
        public Void visitThrow(ThrowTree tree, Void p) {
            return breaks(6, tree);
        }

        @Override
        public Void visitTry(TryTree tree, Void p) {
            return breaks(6, tree);
        }

        @Override
        public Void visitSynchronized(SynchronizedTree tree, Void p) {
            return breaks(6, tree);
        }

        @Override
        public Void visitAssert(AssertTree tree, Void p) {
            return breaks(6, tree);
        }

        @Override
        public Void visitInstanceOf(InstanceOfTree tree, Void p) {
            return breaks(6, tree);
        }

        @Override
        public Void visitLambdaExpression(LambdaExpressionTree tree, Void p) {
            return breaks(6, tree);
        }

        @Override
        public Void visitMemberReference(MemberReferenceTree tree, Void p) {
            return breaks(6, tree);
        }

        @Override
        public Void visitTypeCast(TypeCastTree tree, Void p) {
            return tree.getType().getKind() == Tree.Kind.PRIMITIVE_TYPE ? super.visitTypeCast(tree, p) : breaks(6, tree);
        }

        // Rule 8

        @Override
        public Void visitForLoop(ForLoopTree tree, Void p) {
            return isBounded(tree.getCondition()) ? super.visitForLoop(tree, p) : breaks(8, tree);
        }

        @Override
        public Void visitWhileLoop(WhileLoopTree tree, Void p) {
            return isBounded(tree.getCondition()) ? super.visitWhileLoop(tree, p) : breaks(8, tree);
        }

        @Override
        public Void visitDoWhileLoop(DoWhileLoopTree tree, Void p) {
            return isBounded(tree.getCondition()) ? super.visitDoWhileLoop(tree, p) : breaks(8, tree);
        }

        /** Whether a comparison by size must hold for the loop to go on. */
        private static boolean isBounded(ExpressionTree condition) {
            if (condition instanceof ParenthesizedTree inner) {
                return isBounded(inner.getExpression());
            }
            if (!(condition instanceof BinaryTree binary)) {
                return false;
            }
            switch (binary.getKind()) {
                case LESS_THAN, LESS_THAN_EQUAL, GREATER_THAN, GREATER_THAN_EQUAL:
                    return true;
                case CONDITIONAL_AND:
                    return isBounded(binary.getLeftOperand()) || isBounded(binary.getRightOperand());
                default:
                    return false;
            }
        }

        // Rule 10, and the calls for rule 8

        @Override
        public Void visitMethod(MethodTree tree, Void p) {
            method = tree.getName().toString();
            callsOf.putIfAbsent(method, new TreeSet<>());
            (tree.getModifiers().getFlags().contains(Modifier.PRIVATE) ? privateNames : publicNames).add(method);
            long start = trees.getSourcePositions().getStartPosition(unit, tree);
            long end = trees.getSourcePositions().getEndPosition(unit, tree);
            long lines = unit.getLineMap().getLineNumber(end) - unit.getLineMap().getLineNumber(start) + 1;
            if (tree.getParameters().size() > 7 || lines > 60) {
                breaks(10, tree);
            }
            if (tree.getReturnType() != null && isArray(tree.getReturnType())) {
                breaks(4, tree);
            }
            super.visitMethod(tree, p);
            method = "";
            return null;
        }

        @Override
        public Void visitMethodInvocation(MethodInvocationTree tree, Void p) {
            String name = tree.getMethodSelect().toString();
            // The compiler puts this call into the constructor by itself.
            if (name.equals("super")) {
                return null;
            }
            if (inArguments) {
                breaks(10, tree);
            }
            Element called = elementOf(tree.getMethodSelect());
            if (!called.getEnclosingElement().getSimpleName().contentEquals("MixfixReader")) {
                breaks(3, tree);
            }
            callsOf.computeIfAbsent(method, ignored -> new TreeSet<>()).add(called.getSimpleName().toString());
            scan(tree.getMethodSelect(), p);
            boolean before = inArguments;
            inArguments = true;
            scan(tree.getArguments(), p);
            inArguments = before;
            return null;
        }

        void lookAtCalls() {
            for (String name : privateNames) {
                if (publicNames.contains(name)) {
                    found.add("rule 1: name " + name);
                }
            }
            for (String name : callsOf.keySet()) {
                int deep = deepFrom(name, 1);
                if (deep > callsOf.size()) {
                    found.add("rule 8: " + name + " comes back to a method");
                } else if (deep > 6) {
                    found.add("rule 10: calls go " + deep + " deep from " + name);
                }
            }
            if (fields > 40) {
                found.add("rule 10: " + fields + " fields");
            }
        }

        /** How many methods stand one in another at most; more than there are, if they come round. */
        private int deepFrom(String name, int above) {
            int deepest = above;
            for (String called : callsOf.getOrDefault(name, Set.of())) {
                if (above <= callsOf.size()) {
                    deepest = Math.max(deepest, deepFrom(called, above + 1));
                }
            }
            return deepest;
        }
    }
}
