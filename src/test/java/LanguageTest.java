import com.sun.source.tree.ArrayAccessTree;
import com.sun.source.tree.ArrayTypeTree;
import com.sun.source.tree.BinaryTree;
import com.sun.source.tree.BlockTree;
import com.sun.source.tree.ClassTree;
import com.sun.source.tree.CompilationUnitTree;
import com.sun.source.tree.ExpressionTree;
import com.sun.source.tree.ForLoopTree;
import com.sun.source.tree.IdentifierTree;
import com.sun.source.tree.MethodInvocationTree;
import com.sun.source.tree.MethodTree;
import com.sun.source.tree.NewArrayTree;
import com.sun.source.tree.ParenthesizedTree;
import com.sun.source.tree.PrimitiveTypeTree;
import com.sun.source.tree.Tree;
import com.sun.source.tree.VariableTree;
import com.sun.source.tree.WhileLoopTree;
import com.sun.source.util.JavacTask;
import com.sun.source.util.TreeScanner;
import com.sun.source.util.Trees;
import java.nio.file.Path;
import java.util.EnumSet;
import java.util.HashMap;
import java.util.HashSet;
import java.util.Map;
import java.util.Set;
import java.util.TreeSet;
import javax.lang.model.element.Modifier;
import javax.lang.model.type.TypeKind;
import javax.tools.JavaCompiler;
import javax.tools.StandardJavaFileManager;
import javax.tools.ToolProvider;

/**
 * Holds the program's text to ../shared/LANGUAGE.md, where a rule can be told from the text;
 * FaceTest has rules 1 and 5. It is stricter than the rules: it knows the forms that the
 * program uses, and a form that is new to it has to be looked up in the rules and added here.
 */
public final class LanguageTest {
    private static final Path PROGRAM = Path.of("src/main/java/MoveTree.java");
    private static final int MOST_PARAMETERS = 7;
    private static final int MOST_LINES = 60;
    private static final int MOST_FIELDS = 40;
    private static final int MOST_CALLS_DEEP = 6;

    // Neither a member of something else (so no library), nor new, null, a text or a cast.
    private static final Set<Tree.Kind> FORMS = EnumSet.of(
        Tree.Kind.COMPILATION_UNIT, Tree.Kind.CLASS, Tree.Kind.METHOD, Tree.Kind.VARIABLE, Tree.Kind.MODIFIERS,
        Tree.Kind.PRIMITIVE_TYPE, Tree.Kind.ARRAY_TYPE, Tree.Kind.NEW_ARRAY, Tree.Kind.ARRAY_ACCESS,
        Tree.Kind.BLOCK, Tree.Kind.EXPRESSION_STATEMENT, Tree.Kind.IF, Tree.Kind.FOR_LOOP, Tree.Kind.WHILE_LOOP,
        Tree.Kind.RETURN, Tree.Kind.METHOD_INVOCATION, Tree.Kind.IDENTIFIER, Tree.Kind.PARENTHESIZED,
        Tree.Kind.INT_LITERAL, Tree.Kind.BOOLEAN_LITERAL, Tree.Kind.ASSIGNMENT, Tree.Kind.PLUS_ASSIGNMENT,
        Tree.Kind.POSTFIX_INCREMENT, Tree.Kind.POSTFIX_DECREMENT, Tree.Kind.UNARY_MINUS,
        Tree.Kind.LOGICAL_COMPLEMENT, Tree.Kind.CONDITIONAL_AND, Tree.Kind.CONDITIONAL_OR,
        Tree.Kind.PLUS, Tree.Kind.MINUS, Tree.Kind.MULTIPLY, Tree.Kind.DIVIDE,
        Tree.Kind.EQUAL_TO, Tree.Kind.NOT_EQUAL_TO, Tree.Kind.LESS_THAN, Tree.Kind.GREATER_THAN,
        Tree.Kind.LESS_THAN_EQUAL, Tree.Kind.GREATER_THAN_EQUAL);
    private static final Set<Tree.Kind> COMPARISONS = EnumSet.of(
        Tree.Kind.LESS_THAN, Tree.Kind.GREATER_THAN, Tree.Kind.LESS_THAN_EQUAL, Tree.Kind.GREATER_THAN_EQUAL);

    public static void main(String[] args) throws Exception {
        JavaCompiler compiler = ToolProvider.getSystemJavaCompiler();
        try (StandardJavaFileManager files = compiler.getStandardFileManager(null, null, null)) {
            JavacTask task = (JavacTask) compiler.getTask(
                null, files, null, null, null, files.getJavaFileObjects(PROGRAM));
            Trees trees = Trees.instance(task);
            for (CompilationUnitTree unit : task.parse()) {
                checkUnit(unit);
                Reader reader = new Reader(unit, trees);
                reader.scan(unit, null);
                checkCalls(reader.calls);
            }
        }
        Answers.end();
    }

    private static void checkUnit(CompilationUnitTree unit) {
        Answers.holds("rule 3: nothing is imported", unit.getImports().isEmpty());
        Answers.holds("no package line", unit.getPackageName() == null);
        Answers.holds("rule 1: one class", unit.getTypeDecls().size() == 1);
        ClassTree program = (ClassTree) unit.getTypeDecls().get(0);
        int fields = 0;
        for (Tree member : program.getMembers()) {
            Answers.holds("rule 5: no initialiser outside the fields", !(member instanceof BlockTree));
            if (member instanceof VariableTree field) {
                Set<Modifier> flags = field.getModifiers().getFlags();
                fields += flags.contains(Modifier.STATIC) ? 0 : 1;
                Answers.holds("rule 4: no method assigns to " + field.getName(),
                    field.getType().getKind() != Tree.Kind.ARRAY_TYPE || flags.contains(Modifier.FINAL));
            }
        }
        Answers.holds("rule 10: some forty fields at most", fields <= MOST_FIELDS);
    }

    private static void checkCalls(Map<String, Set<String>> calls) {
        for (String method : calls.keySet()) {
            Set<String> reached = calls.get(method);
            int deep = 0;
            while (!reached.isEmpty() && deep <= MOST_CALLS_DEEP) {
                Set<String> next = new TreeSet<>();
                for (String called : reached) {
                    Answers.holds("rule 3: " + called + " is a method of the class", calls.containsKey(called));
                    next.addAll(calls.getOrDefault(called, Set.of()));
                }
                Answers.holds("rule 8: " + method + " isn't reached from itself", !reached.contains(method));
                reached = next;
                deep++;
            }
            Answers.holds("rule 10: calls from " + method + " go at most six deep", deep <= MOST_CALLS_DEEP);
        }
    }

    private static final class Reader extends TreeScanner<Void, Void> {
        final Map<String, Set<String>> calls = new HashMap<>();
        private final CompilationUnitTree unit;
        private final Trees trees;
        private final Set<String> arrays = new HashSet<>();
        private String method = null;
        private boolean inArguments = false;

        Reader(CompilationUnitTree unit, Trees trees) {
            this.unit = unit;
            this.trees = trees;
        }

        private long lineOf(long position) {
            return unit.getLineMap().getLineNumber(position);
        }

        private void holds(Tree at, String claim, boolean isSo) {
            long line = lineOf(trees.getSourcePositions().getStartPosition(unit, at));
            Answers.holds("line " + line + ": " + claim, isSo);
        }

        @Override
        public Void scan(Tree tree, Void unused) {
            if (tree != null) {
                holds(tree, "the form " + tree.getKind() + " is one of those used here", FORMS.contains(tree.getKind()));
            }
            return super.scan(tree, unused);
        }

        @Override
        public Void visitMethod(MethodTree tree, Void unused) {
            method = tree.getName().toString();
            Answers.holds("one method alone is named " + method, calls.put(method, new TreeSet<>()) == null);
            holds(tree, "rule 10: at most seven parameters", tree.getParameters().size() <= MOST_PARAMETERS);
            holds(tree, "rule 4: no array is answered",
                tree.getReturnType() == null || tree.getReturnType().getKind() == Tree.Kind.PRIMITIVE_TYPE);
            long first = lineOf(trees.getSourcePositions().getStartPosition(unit, tree));
            long last = lineOf(trees.getSourcePositions().getEndPosition(unit, tree));
            holds(tree, "rule 10: a method has some sixty lines at most", last - first < MOST_LINES);
            super.visitMethod(tree, unused);
            method = null;
            return null;
        }

        @Override
        public Void visitVariable(VariableTree tree, Void unused) {
            Tree type = tree.getType();
            if (type instanceof ArrayTypeTree array) {
                type = array.getType();
                arrays.add(tree.getName().toString());
            }
            holds(tree, "rule 2: a number, a boolean or an array of these",
                type != null && type.getKind() == Tree.Kind.PRIMITIVE_TYPE);
            return super.visitVariable(tree, unused);
        }

        @Override
        public Void visitPrimitiveType(PrimitiveTypeTree tree, Void unused) {
            TypeKind kind = tree.getPrimitiveTypeKind();
            holds(tree, "rule 2: no float or double", kind != TypeKind.FLOAT && kind != TypeKind.DOUBLE);
            return null;
        }

        @Override
        public Void visitNewArray(NewArrayTree tree, Void unused) {
            holds(tree, "rule 4: an array is made in a field's initialiser", method == null);
            holds(tree, "rule 4: an array has one dimension, a literal or a constant",
                tree.getInitializers() == null && tree.getDimensions().size() == 1
                    && isLiteralOrConstant(tree.getDimensions().get(0)));
            return super.visitNewArray(tree, unused);
        }

        @Override
        public Void visitArrayAccess(ArrayAccessTree tree, Void unused) {
            holds(tree, "rule 2: an array that is indexed has a name", tree.getExpression() instanceof IdentifierTree);
            return scan(tree.getIndex(), unused);
        }

        @Override
        public Void visitIdentifier(IdentifierTree tree, Void unused) {
            holds(tree, "rule 4: an array is indexed and used in no other way",
                !arrays.contains(tree.getName().toString()));
            return null;
        }

        @Override
        public Void visitBinary(BinaryTree tree, Void unused) {
            holds(tree, "rule 7: a divisor is a literal or a constant",
                tree.getKind() != Tree.Kind.DIVIDE || isLiteralOrConstant(tree.getRightOperand()));
            return super.visitBinary(tree, unused);
        }

        private static boolean isLiteralOrConstant(ExpressionTree tree) {
            return tree.getKind() == Tree.Kind.INT_LITERAL
                || tree instanceof IdentifierTree named && named.getName().toString().matches("[A-Z_]+");
        }

        @Override
        public Void visitMethodInvocation(MethodInvocationTree tree, Void unused) {
            holds(tree, "rule 10: no call stands inside the arguments of another", !inArguments);
            holds(tree, "rule 5: a field's initialiser calls nothing", method != null);
            if (method != null && tree.getMethodSelect() instanceof IdentifierTree called) {
                calls.get(method).add(called.getName().toString());
            }
            boolean before = inArguments;
            inArguments = true;
            super.visitMethodInvocation(tree, unused);
            inArguments = before;
            return null;
        }

        @Override
        public Void visitForLoop(ForLoopTree tree, Void unused) {
            holds(tree, "rule 8: the loop has a bound", comparesAtItsTop(tree.getCondition()));
            return super.visitForLoop(tree, unused);
        }

        @Override
        public Void visitWhileLoop(WhileLoopTree tree, Void unused) {
            holds(tree, "rule 8: the loop has a bound", comparesAtItsTop(tree.getCondition()));
            return super.visitWhileLoop(tree, unused);
        }

        /** The loop can go on only while a comparison holds: it stands alone or behind an &&. */
        private static boolean comparesAtItsTop(ExpressionTree condition) {
            if (condition instanceof ParenthesizedTree inner) {
                return comparesAtItsTop(inner.getExpression());
            }
            if (condition instanceof BinaryTree both && both.getKind() == Tree.Kind.CONDITIONAL_AND) {
                return comparesAtItsTop(both.getLeftOperand()) || comparesAtItsTop(both.getRightOperand());
            }
            return condition != null && COMPARISONS.contains(condition.getKind());
        }
    }
}
