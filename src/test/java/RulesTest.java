import com.sun.source.tree.ArrayAccessTree;
import com.sun.source.tree.BinaryTree;
import com.sun.source.tree.BlockTree;
import com.sun.source.tree.ClassTree;
import com.sun.source.tree.CompilationUnitTree;
import com.sun.source.tree.CompoundAssignmentTree;
import com.sun.source.tree.DoWhileLoopTree;
import com.sun.source.tree.ExpressionTree;
import com.sun.source.tree.ForLoopTree;
import com.sun.source.tree.MemberSelectTree;
import com.sun.source.tree.MethodInvocationTree;
import com.sun.source.tree.MethodTree;
import com.sun.source.tree.NewArrayTree;
import com.sun.source.tree.NewClassTree;
import com.sun.source.tree.Tree;
import com.sun.source.tree.TypeCastTree;
import com.sun.source.tree.VariableTree;
import com.sun.source.tree.WhileLoopTree;
import com.sun.source.util.JavacTask;
import com.sun.source.util.TreeScanner;
import com.sun.source.util.Trees;
import java.io.File;
import java.io.IOException;
import java.util.ArrayList;
import java.util.EnumSet;
import java.util.HashMap;
import java.util.HashSet;
import java.util.List;
import java.util.Map;
import java.util.Set;
import java.util.TreeSet;
import javax.lang.model.element.Modifier;
import javax.tools.JavaCompiler;
import javax.tools.ToolProvider;

/** The rules of LANGUAGE.md that the compiler's own reading of the source can tell, by their numbers. */
public final class RulesTest {
    private static final File SOURCE = new File("src/main/java/WellPipes.java");
    private static final int MOST_LINES = 60, MOST_PARAMETERS = 7, MOST_CLASSES = 12, MOST_FIELDS = 20, MOST_DEEP = 8;
    private static final Set<String> LIBRARY = Set.of("Math.max", "Math.min", "Arrays.fill", "System.arraycopy");
    private static final Set<String> CONSTANT_TYPES =
        Set.of("int", "long", "boolean", "char", "String", "int[]", "long[]", "char[]", "byte[]");
    /** Divisors that are no constants, each of them looked at before it divides. */
    private static final Set<String> LOOKED_AT = Set.of("all", "borne", "divisor", "rest", "steps", "grades");
    private static final Set<Tree.Kind> BARRED = EnumSet.of(
        Tree.Kind.THROW, Tree.Kind.TRY, Tree.Kind.CATCH, Tree.Kind.SYNCHRONIZED, Tree.Kind.ASSERT,
        Tree.Kind.LAMBDA_EXPRESSION, Tree.Kind.MEMBER_REFERENCE, Tree.Kind.SWITCH_EXPRESSION, Tree.Kind.INSTANCE_OF,
        Tree.Kind.DOUBLE_LITERAL, Tree.Kind.FLOAT_LITERAL);
    private static final Due DUE = new Due();

    public static void main(String[] args) throws IOException {
        JavaCompiler compiler = ToolProvider.getSystemJavaCompiler();
        var files = compiler.getStandardFileManager(null, null, null);
        JavacTask task = (JavacTask) compiler.getTask(null, files, null, null, null, files.getJavaFileObjects(SOURCE));
        CompilationUnitTree unit = task.parse().iterator().next();
        Reading reading = new Reading(unit, Trees.instance(task));
        reading.scan(unit, null);
        reading.end();
        DUE.end();
    }

    private static void holds(String rule, boolean it) {
        DUE.is("rule " + rule, it ? 1 : 0, 1);
    }

    private static final class Reading extends TreeScanner<Void, Void> {
        private final CompilationUnitTree unit;
        private final Trees trees;
        private final Set<String> constants = new HashSet<>();
        private final Map<String, Set<String>> calls = new HashMap<>();
        private final List<ExpressionTree> divisors = new ArrayList<>();
        private int classes;
        private String method;

        Reading(CompilationUnitTree unit, Trees trees) {
            this.unit = unit;
            this.trees = trees;
        }

        private long line(Tree tree) {
            return unit.getLineMap().getLineNumber(trees.getSourcePositions().getStartPosition(unit, tree));
        }

        private long lastLine(Tree tree) {
            return unit.getLineMap().getLineNumber(trees.getSourcePositions().getEndPosition(unit, tree));
        }

        private String at(Tree tree) {
            return ", line " + line(tree);
        }

        @Override
        public Void scan(Tree tree, Void none) {
            if (tree != null) {
                holds("6, 2: no " + tree.getKind() + at(tree), !BARRED.contains(tree.getKind()));
            }
            return super.scan(tree, none);
        }

        @Override
        public Void visitClass(ClassTree tree, Void none) {
            classes++;
            String name = tree.getSimpleName().toString();
            Set<Modifier> marks = tree.getModifiers().getFlags();
            holds("2: " + name + " is within no method", method == null);
            if (classes > 1) {
                holds("1, 2: " + name + " is static, not public", marks.contains(Modifier.STATIC)
                    && !marks.contains(Modifier.PUBLIC) && !marks.contains(Modifier.PROTECTED));
            }
            int fields = 0;
            for (Tree member : tree.getMembers()) {
                holds("5: no block of its own in " + name, !(member instanceof BlockTree));
                if (member instanceof VariableTree field) {
                    fields += field.getModifiers().getFlags().contains(Modifier.STATIC) ? 0 : 1;
                    lookAtField(field);
                }
            }
            holds("11: " + name + " has some twenty fields", fields <= MOST_FIELDS);
            return super.visitClass(tree, none);
        }

        private void lookAtField(VariableTree field) {
            Set<Modifier> marks = field.getModifiers().getFlags();
            if (!marks.contains(Modifier.STATIC)) {
                return;
            }
            String name = field.getName().toString();
            holds("5: " + name + " is final", marks.contains(Modifier.FINAL));
            holds("5: the type of " + name, CONSTANT_TYPES.contains(field.getType().toString()));
            holds("5: " + name + " is written out", field.getInitializer() != null);
            constants.add(name);
        }

        @Override
        public Void visitMethod(MethodTree tree, Void none) {
            String before = method;
            method = tree.getName().toString();
            // By names alone: chains may be found that are none, but none is overlooked.
            calls.computeIfAbsent(method, key -> new TreeSet<>());
            holds("11: parameters of " + method, tree.getParameters().size() <= MOST_PARAMETERS);
            holds("11: lines of " + method, lastLine(tree) - line(tree) < MOST_LINES);
            super.visitMethod(tree, none);
            method = before;
            return null;
        }

        @Override
        public Void visitMethodInvocation(MethodInvocationTree tree, Void none) {
            if (method == null) {
                holds("12: no call in a field's first value" + at(tree), false);
                return super.visitMethodInvocation(tree, none);
            }
            String called = tree.getMethodSelect().toString();
            if (tree.getMethodSelect() instanceof MemberSelectTree select) {
                boolean library = Character.isUpperCase(called.charAt(0));
                holds("4: " + called, !library || LIBRARY.contains(called));
                called = library ? called : select.getIdentifier().toString();
            }
            if (!method.equals(called) && !called.equals("super")) {
                calls.get(method).add(called);
            }
            return super.visitMethodInvocation(tree, none);
        }

        @Override
        public Void visitNewClass(NewClassTree tree, Void none) {
            holds("2: no class without a name" + at(tree), tree.getClassBody() == null);
            holds("12: made in constructors alone" + at(tree), method == null || method.equals("<init>"));
            return super.visitNewClass(tree, none);
        }

        @Override
        public Void visitNewArray(NewArrayTree tree, Void none) {
            holds("12: made in constructors alone" + at(tree), method == null || method.equals("<init>"));
            holds("3: one dimension" + at(tree), tree.getDimensions().size() <= 1);
            return super.visitNewArray(tree, none);
        }

        @Override
        public Void visitTypeCast(TypeCastTree tree, Void none) {
            holds("7: a cast of numbers" + at(tree), Set.of("byte", "short", "int").contains(tree.getType().toString()));
            return super.visitTypeCast(tree, none);
        }

        @Override
        public Void visitBinary(BinaryTree tree, Void none) {
            if (tree.getKind() == Tree.Kind.DIVIDE || tree.getKind() == Tree.Kind.REMAINDER) {
                divisors.add(tree.getRightOperand());
            }
            return super.visitBinary(tree, none);
        }

        @Override
        public Void visitCompoundAssignment(CompoundAssignmentTree tree, Void none) {
            if (tree.getKind() == Tree.Kind.DIVIDE_ASSIGNMENT || tree.getKind() == Tree.Kind.REMAINDER_ASSIGNMENT) {
                divisors.add(tree.getExpression());
            }
            return super.visitCompoundAssignment(tree, none);
        }

        @Override
        public Void visitForLoop(ForLoopTree tree, Void none) {
            holds("9: a counter against a bound" + at(tree), tree.getCondition() != null && !tree.getUpdate().isEmpty()
                && isBound(tree.getCondition()));
            return super.visitForLoop(tree, none);
        }

        @Override
        public Void visitWhileLoop(WhileLoopTree tree, Void none) {
            holds("9: a counter against a bound" + at(tree), isBound(tree.getCondition()));
            return super.visitWhileLoop(tree, none);
        }

        @Override
        public Void visitDoWhileLoop(DoWhileLoopTree tree, Void none) {
            holds("9: a counter against a bound" + at(tree), isBound(tree.getCondition()));
            return super.visitDoWhileLoop(tree, none);
        }

        @Override
        public Void visitArrayAccess(ArrayAccessTree tree, Void none) {
            holds("3: one dimension" + at(tree), !(tree.getExpression() instanceof ArrayAccessTree));
            return super.visitArrayAccess(tree, none);
        }

        private static boolean isBound(ExpressionTree condition) {
            return condition.toString().matches(".*[<>].*");
        }

        private boolean isSafe(ExpressionTree divisor) {
            String words = divisor.toString();
            if (words.matches("\\(.*\\)")) {
                words = words.substring(1, words.length() - 1);
            }
            for (String word : words.split(" \\+ ")) {
                if (!word.matches("[1-9][0-9]*L?") && !constants.contains(word) && !LOOKED_AT.contains(word)) {
                    return false;
                }
            }
            return true;
        }

        private int deep(String from, List<String> open) {
            if (open.contains(from)) {
                holds("8: methods that call one another: " + open + " " + from, false);
                return 0;
            }
            open.add(from);
            int deepest = 0;
            for (String next : calls.getOrDefault(from, Set.of())) {
                deepest = Math.max(deepest, deep(next, open));
            }
            open.remove(from);
            return deepest + 1;
        }

        void end() {
            for (ExpressionTree divisor : divisors) {
                holds("7: a divisor is looked at: " + divisor + at(divisor), isSafe(divisor));
            }
            for (String name : new TreeSet<>(calls.keySet())) {
                DUE.is("rule 11: " + name + " goes too deep by", Math.max(0, deep(name, new ArrayList<>()) - MOST_DEEP), 0);
            }
            DUE.is("rule 11: classes too many", Math.max(0, classes - MOST_CLASSES), 0);
            DUE.is("divisors were seen", divisors.isEmpty() ? 0 : 1, 1);
            DUE.is("calls were seen", deep("who", new ArrayList<>()) > 3 ? 1 : 0, 1);
        }
    }
}
