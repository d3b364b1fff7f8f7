import com.sun.source.tree.ArrayAccessTree;
import com.sun.source.tree.ArrayTypeTree;
import com.sun.source.tree.AssignmentTree;
import com.sun.source.tree.BinaryTree;
import com.sun.source.tree.CaseTree;
import com.sun.source.tree.ClassTree;
import com.sun.source.tree.CompilationUnitTree;
import com.sun.source.tree.CompoundAssignmentTree;
import com.sun.source.tree.ExpressionTree;
import com.sun.source.tree.ForLoopTree;
import com.sun.source.tree.IdentifierTree;
import com.sun.source.tree.MethodInvocationTree;
import com.sun.source.tree.MethodTree;
import com.sun.source.tree.NewArrayTree;
import com.sun.source.tree.PrimitiveTypeTree;
import com.sun.source.tree.Tree;
import com.sun.source.tree.Tree.Kind;
import com.sun.source.tree.UnaryTree;
import com.sun.source.tree.VariableTree;
import com.sun.source.util.JavacTask;
import com.sun.source.util.TreeScanner;
import com.sun.source.util.Trees;
import java.io.File;
import java.io.IOException;
import java.util.EnumSet;
import java.util.Map;
import java.util.Set;
import java.util.TreeMap;
import java.util.TreeSet;
import javax.lang.model.element.Modifier;
import javax.lang.model.type.TypeKind;
import javax.tools.JavaCompiler;
import javax.tools.StandardJavaFileManager;
import javax.tools.ToolProvider;

/**
 * The rules of ../shared/LANGUAGE.md that can be seen in the source. It lets through what the program
 * uses and no more, so in places it is narrower than the rule: loops are counted ones, and arrays are
 * fields that are only ever indexed. Rule 7 can't be seen here; the other tests call with every wrong
 * argument.
 */
public final class LanguageTest extends TreeScanner<Void, Void> {
    private static final String SOURCE = "src/main/java/QuadPictures.java";
    private static final int MOST_LINES = 60;
    private static final int MOST_CALLS_DEEP = 6;
    private static final int MOST_FIELDS = 40;
    private static final int MOST_PARAMETERS = 7;

    // Operators are let through apart from these: rule 9 allows them all.
    private static final Set<Kind> PARTS = EnumSet.of(
        Kind.CLASS, Kind.MODIFIERS, Kind.VARIABLE, Kind.METHOD, Kind.BLOCK, Kind.PRIMITIVE_TYPE,
        Kind.ARRAY_TYPE, Kind.NEW_ARRAY, Kind.ARRAY_ACCESS, Kind.IDENTIFIER, Kind.METHOD_INVOCATION,
        Kind.INT_LITERAL, Kind.LONG_LITERAL, Kind.CHAR_LITERAL, Kind.BOOLEAN_LITERAL,
        Kind.ASSIGNMENT, Kind.PARENTHESIZED, Kind.CONDITIONAL_EXPRESSION, Kind.EXPRESSION_STATEMENT,
        Kind.IF, Kind.FOR_LOOP, Kind.SWITCH, Kind.CASE, Kind.RETURN, Kind.BREAK,
        Kind.CONTINUE, Kind.LABELED_STATEMENT);
    private static final Set<TypeKind> TYPES = EnumSet.of(
        TypeKind.INT, TypeKind.LONG, TypeKind.SHORT, TypeKind.BYTE, TypeKind.CHAR, TypeKind.BOOLEAN);

    private static final Due DUE = new Due();

    private final CompilationUnitTree unit;
    private final Trees trees;
    private final Set<String> constants = new TreeSet<>();
    private final Set<String> arrays = new TreeSet<>();
    private final Map<String, Set<String>> calls = new TreeMap<>();
    private String method = "";
    private boolean inArguments = false;

    private LanguageTest(CompilationUnitTree unit, Trees trees) {
        this.unit = unit;
        this.trees = trees;
    }

    public static void main(String[] args) throws IOException {
        JavaCompiler compiler = ToolProvider.getSystemJavaCompiler();
        try (StandardJavaFileManager files = compiler.getStandardFileManager(null, null, null)) {
            JavacTask task = (JavacTask) compiler.getTask(
                null, files, null, null, null, files.getJavaFileObjects(new File(SOURCE)));
            for (CompilationUnitTree unit : task.parse()) {
                new LanguageTest(unit, Trees.instance(task)).check();
            }
        }
        DUE.end();
    }

    private void check() {
        yes("1: no package line", unit.getPackage() == null);
        yes("3: nothing is imported", unit.getImports().isEmpty());
        DUE.due("1: classes in the file", unit.getTypeDecls().size(), 1);
        ClassTree program = (ClassTree) unit.getTypeDecls().get(0);
        yes("2: the class extends no other", program.getExtendsClause() == null && program.getImplementsClause().isEmpty());
        int fields = 0;
        for (Tree member : program.getMembers()) {
            if (member instanceof VariableTree) {
                fields += field((VariableTree) member);
            } else if (member instanceof MethodTree) {
                calls.put(((MethodTree) member).getName().toString(), new TreeSet<>());
            } else {
                yes("1 and 5: a member that is neither field nor method" + line(member), false);
            }
        }
        yes("10: at most " + MOST_FIELDS + " fields, not " + fields, fields <= MOST_FIELDS);
        for (Tree member : program.getMembers()) {
            scan(member, null);
        }
        for (String each : calls.keySet()) {
            int deep = depth(each, new TreeSet<>());
            yes("8 and 10: " + each + " calls itself, or calls go too deep", deep <= MOST_CALLS_DEEP);
        }
    }

    /** Notes what the field is; answers how many fields that are not constants it adds. */
    private int field(VariableTree field) {
        String name = field.getName().toString();
        boolean isFinal = field.getModifiers().getFlags().contains(Modifier.FINAL);
        if (field.getModifiers().getFlags().contains(Modifier.STATIC)) {
            yes("5: the static " + name + " is final and has a value", isFinal && field.getInitializer() != null);
            yes("5: the value of " + name + " is of constants", isConstant(field.getInitializer()));
            constants.add(name);
            return 0;
        }
        if (field.getType() instanceof ArrayTypeTree) {
            yes("4: the array " + name + " is final", isFinal);
            yes("4: the array " + name + " is made where it is named", isNewArray(field.getInitializer()));
            arrays.add(name);
        } else {
            yes("4: " + name + " makes no array", !(field.getInitializer() instanceof NewArrayTree));
        }
        return 1;
    }

    private boolean isNewArray(ExpressionTree value) {
        if (!(value instanceof NewArrayTree)) {
            return false;
        }
        NewArrayTree made = (NewArrayTree) value;
        return made.getDimensions().size() == 1 && made.getInitializers() == null
            && isConstant(made.getDimensions().get(0));
    }

    private boolean isConstant(ExpressionTree value) {
        if (value instanceof BinaryTree) {
            BinaryTree both = (BinaryTree) value;
            return isConstant(both.getLeftOperand()) && isConstant(both.getRightOperand());
        }
        return value != null && (value.getKind() == Kind.INT_LITERAL || value.getKind() == Kind.LONG_LITERAL
            || value instanceof IdentifierTree && constants.contains(value.toString()));
    }

    /** How deep the calls go that begin with this one; more than is allowed if they come round. */
    private int depth(String name, Set<String> above) {
        if (above.contains(name) || above.size() > MOST_CALLS_DEEP) {
            return MOST_CALLS_DEEP + 1;
        }
        Set<String> here = new TreeSet<>(above);
        here.add(name);
        int deepest = 0;
        for (String called : calls.getOrDefault(name, Set.of())) {
            deepest = Math.max(deepest, depth(called, here));
        }
        return 1 + deepest;
    }

    @Override
    public Void scan(Tree tree, Void none) {
        if (tree != null) {
            boolean known = PARTS.contains(tree.getKind()) || tree instanceof BinaryTree
                || tree instanceof UnaryTree || tree instanceof CompoundAssignmentTree;
            yes("2, 3, 4, 6: " + tree.getKind() + line(tree), known);
        }
        return super.scan(tree, none);
    }

    @Override
    public Void visitClass(ClassTree tree, Void none) {
        yes("1: no nested class" + line(tree), false);
        return null;
    }

    @Override
    public Void visitMethod(MethodTree tree, Void none) {
        method = tree.getName().toString();
        yes("10: at most seven parameters" + line(tree), tree.getParameters().size() <= MOST_PARAMETERS);
        yes("4: no array is answered" + line(tree), !(tree.getReturnType() instanceof ArrayTypeTree));
        long lines = lineOf(end(tree)) - lineOf(start(tree)) + 1;
        yes("10: some sixty lines, not " + lines + line(tree), lines <= MOST_LINES);
        super.visitMethod(tree, none);
        method = "";
        return null;
    }

    @Override
    public Void visitVariable(VariableTree tree, Void none) {
        Tree type = tree.getType();
        boolean isField = method.isEmpty();
        if (isField && type instanceof ArrayTypeTree) {
            type = ((ArrayTypeTree) type).getType();
        }
        yes("2: a whole number, a boolean or a field's array of these" + line(tree), type instanceof PrimitiveTypeTree);
        return super.visitVariable(tree, none);
    }

    @Override
    public Void visitPrimitiveType(PrimitiveTypeTree tree, Void none) {
        boolean isAnswer = tree.getPrimitiveTypeKind() == TypeKind.VOID;
        yes("2: " + tree + line(tree), isAnswer || TYPES.contains(tree.getPrimitiveTypeKind()));
        return null;
    }

    @Override
    public Void visitNewArray(NewArrayTree tree, Void none) {
        yes("4: an array made in a method" + line(tree), method.isEmpty());
        return super.visitNewArray(tree, none);
    }

    @Override
    public Void visitArrayAccess(ArrayAccessTree tree, Void none) {
        yes("4: what is indexed is a field" + line(tree), arrays.contains(tree.getExpression().toString()));
        // Its name is the one place where an array may stand, so it isn't scanned.
        return scan(tree.getIndex(), none);
    }

    @Override
    public Void visitIdentifier(IdentifierTree tree, Void none) {
        yes("4: an array not indexed" + line(tree), !arrays.contains(tree.toString()));
        return null;
    }

    @Override
    public Void visitMethodInvocation(MethodInvocationTree tree, Void none) {
        String called = tree.getMethodSelect().toString();
        yes("3: " + called + " is the class's own" + line(tree), calls.containsKey(called));
        yes("10: a call inside the arguments of another" + line(tree), !inArguments);
        calls.getOrDefault(method, new TreeSet<>()).add(called);
        boolean outer = inArguments;
        inArguments = true;
        scan(tree.getArguments(), none);
        inArguments = outer;
        return null;
    }

    @Override
    public Void visitCase(CaseTree tree, Void none) {
        // Labels would come as a preview of a later Java, which javac warns of.
        yes("9: a case with statements" + line(tree), tree.getStatements() != null);
        scan(tree.getExpressions(), none);
        return scan(tree.getStatements(), none);
    }

    @Override
    public Void visitForLoop(ForLoopTree tree, Void none) {
        yes("8: a counter against a bound, moved by one and nowhere else" + line(tree), isCounted(tree));
        return super.visitForLoop(tree, none);
    }

    private static boolean isCounted(ForLoopTree loop) {
        if (loop.getInitializer().size() != 1 || loop.getUpdate().size() != 1
            || !(loop.getInitializer().get(0) instanceof VariableTree)
            || !(loop.getCondition() instanceof BinaryTree)) {
            return false;
        }
        String counter = ((VariableTree) loop.getInitializer().get(0)).getName().toString();
        BinaryTree condition = (BinaryTree) loop.getCondition();
        String update = loop.getUpdate().get(0).getExpression().toString();
        Kind test = condition.getKind();
        boolean up = update.equals(counter + "++") && (test == Kind.LESS_THAN || test == Kind.LESS_THAN_EQUAL);
        boolean down = update.equals(counter + "--") && (test == Kind.GREATER_THAN || test == Kind.GREATER_THAN_EQUAL);
        return (up || down) && condition.getLeftOperand().toString().equals(counter)
            && !changes(counter, condition.getRightOperand(), loop.getStatement());
    }

    /** Whether the loop's body assigns to its counter or to a variable of its bound. */
    private static boolean changes(String counter, ExpressionTree bound, Tree body) {
        Set<String> fixed = new TreeSet<>();
        fixed.add(counter);
        boolean[] changed = {false};
        new TreeScanner<Void, Void>() {
            @Override
            public Void visitIdentifier(IdentifierTree tree, Void none) {
                fixed.add(tree.toString());
                return null;
            }
        }.scan(bound, null);
        new TreeScanner<Void, Void>() {
            @Override
            public Void visitAssignment(AssignmentTree tree, Void none) {
                changed[0] |= fixed.contains(tree.getVariable().toString());
                return super.visitAssignment(tree, none);
            }

            @Override
            public Void visitCompoundAssignment(CompoundAssignmentTree tree, Void none) {
                changed[0] |= fixed.contains(tree.getVariable().toString());
                return super.visitCompoundAssignment(tree, none);
            }

            @Override
            public Void visitUnary(UnaryTree tree, Void none) {
                boolean steps = tree.getKind() != Kind.UNARY_MINUS && tree.getKind() != Kind.UNARY_PLUS
                    && tree.getKind() != Kind.LOGICAL_COMPLEMENT && tree.getKind() != Kind.BITWISE_COMPLEMENT;
                changed[0] |= steps && fixed.contains(tree.getExpression().toString());
                return super.visitUnary(tree, none);
            }
        }.scan(body, null);
        return changed[0];
    }

    private long start(Tree tree) {
        return trees.getSourcePositions().getStartPosition(unit, tree);
    }

    private long end(Tree tree) {
        return trees.getSourcePositions().getEndPosition(unit, tree);
    }

    private long lineOf(long position) {
        return unit.getLineMap().getLineNumber(position);
    }

    private String line(Tree tree) {
        // Modifiers that aren't written have no place.
        return start(tree) < 0 ? "" : " in line " + lineOf(start(tree));
    }

    private static void yes(String what, boolean so) {
        DUE.due(what, so ? 1 : 0, 1);
    }
}
