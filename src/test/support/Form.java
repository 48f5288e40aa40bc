import com.sun.source.tree.ArrayAccessTree;
import com.sun.source.tree.ArrayTypeTree;
import com.sun.source.tree.AssignmentTree;
import com.sun.source.tree.BinaryTree;
import com.sun.source.tree.BlockTree;
import com.sun.source.tree.ClassTree;
import com.sun.source.tree.CompilationUnitTree;
import com.sun.source.tree.CompoundAssignmentTree;
import com.sun.source.tree.ExpressionStatementTree;
import com.sun.source.tree.ExpressionTree;
import com.sun.source.tree.ForLoopTree;
import com.sun.source.tree.IdentifierTree;
import com.sun.source.tree.MethodInvocationTree;
import com.sun.source.tree.MethodTree;
import com.sun.source.tree.ModifiersTree;
import com.sun.source.tree.NewArrayTree;
import com.sun.source.tree.ParenthesizedTree;
import com.sun.source.tree.PrimitiveTypeTree;
import com.sun.source.tree.StatementTree;
import com.sun.source.tree.Tree;
import com.sun.source.tree.Tree.Kind;
import com.sun.source.tree.UnaryTree;
import com.sun.source.tree.VariableTree;
import com.sun.source.tree.WhileLoopTree;
import com.sun.source.util.JavacTask;
import com.sun.source.util.SourcePositions;
import com.sun.source.util.TreePathScanner;
import com.sun.source.util.TreeScanner;
import com.sun.source.util.Trees;
import java.io.IOException;
import java.net.URI;
import java.util.ArrayList;
import java.util.EnumSet;
import java.util.HashMap;
import java.util.HashSet;
import java.util.List;
import java.util.Map;
import java.util.Set;
import java.util.TreeMap;
import java.util.TreeSet;
import javax.lang.model.element.Modifier;
import javax.lang.model.type.TypeKind;
import javax.tools.JavaFileObject;
import javax.tools.SimpleJavaFileObject;
import javax.tools.ToolProvider;

/**
 * Looks rules of LANGUAGE.md up in the tree that the compiler makes of a source. It is narrower than
 * the rules: it knows the forms that the class uses, and reports some that the rules would let pass.
 */
final class Form extends TreePathScanner<Void, Void> {
    private static final Set<Kind> LOOKED_AT = EnumSet.of(Kind.COMPILATION_UNIT, Kind.CLASS, Kind.MODIFIERS,
            Kind.VARIABLE, Kind.METHOD, Kind.PRIMITIVE_TYPE, Kind.ARRAY_TYPE, Kind.NEW_ARRAY, Kind.BLOCK, Kind.IF,
            Kind.FOR_LOOP, Kind.WHILE_LOOP, Kind.SWITCH, Kind.CASE, Kind.BREAK, Kind.CONTINUE, Kind.RETURN,
            Kind.EXPRESSION_STATEMENT, Kind.ASSIGNMENT, Kind.PLUS_ASSIGNMENT, Kind.MINUS_ASSIGNMENT,
            Kind.POSTFIX_INCREMENT, Kind.POSTFIX_DECREMENT, Kind.UNARY_MINUS, Kind.LOGICAL_COMPLEMENT,
            Kind.PLUS, Kind.MINUS, Kind.MULTIPLY, Kind.DIVIDE, Kind.REMAINDER, Kind.EQUAL_TO, Kind.NOT_EQUAL_TO,
            Kind.LESS_THAN, Kind.LESS_THAN_EQUAL, Kind.GREATER_THAN, Kind.GREATER_THAN_EQUAL, Kind.CONDITIONAL_AND,
            Kind.CONDITIONAL_OR, Kind.CONDITIONAL_EXPRESSION, Kind.PARENTHESIZED, Kind.IDENTIFIER,
            Kind.ARRAY_ACCESS, Kind.METHOD_INVOCATION, Kind.INT_LITERAL, Kind.BOOLEAN_LITERAL);
    private static final Set<Kind> RULE_1 = EnumSet.of(Kind.PACKAGE, Kind.INTERFACE, Kind.ENUM, Kind.RECORD,
            Kind.ANNOTATION_TYPE, Kind.ANNOTATION);
    private static final Set<Kind> RULE_2 = EnumSet.of(Kind.STRING_LITERAL, Kind.FLOAT_LITERAL, Kind.DOUBLE_LITERAL,
            Kind.PARAMETERIZED_TYPE);
    private static final Set<Kind> RULE_3 = EnumSet.of(Kind.IMPORT, Kind.MEMBER_SELECT, Kind.NEW_CLASS);
    private static final Set<Kind> RULE_4 = EnumSet.of(Kind.NULL_LITERAL);
    private static final Set<Kind> RULE_6 = EnumSet.of(Kind.THROW, Kind.TRY, Kind.CATCH, Kind.SYNCHRONIZED,
            Kind.ASSERT, Kind.INSTANCE_OF, Kind.LAMBDA_EXPRESSION, Kind.MEMBER_REFERENCE);
    private static final Set<Modifier> MODIFIERS =
            EnumSet.of(Modifier.PUBLIC, Modifier.PRIVATE, Modifier.STATIC, Modifier.FINAL);
    private static final Set<TypeKind> NUMBERS = EnumSet.of(TypeKind.INT, TypeKind.LONG, TypeKind.SHORT,
            TypeKind.BYTE, TypeKind.CHAR, TypeKind.BOOLEAN);

    private final CompilationUnitTree unit;
    private final SourcePositions positions;
    private final List<String> faults = new ArrayList<>();
    private final Set<String> constants = new HashSet<>();
    private final Set<String> arrays = new HashSet<>();
    private final Map<String, Set<String>> calls = new TreeMap<>();
    private String method = "";

    private Form(CompilationUnitTree unit, SourcePositions positions) {
        this.unit = unit;
        this.positions = positions;
    }

    /** What is against the rules in a source, each with the number of a rule. */
    static List<String> faultsOf(String source) throws IOException {
        JavaFileObject file = new SimpleJavaFileObject(URI.create("string:///RelationalPages.java"),
                JavaFileObject.Kind.SOURCE) {
            @Override
            public CharSequence getCharContent(boolean ignoreEncodingErrors) {
                return source;
            }
        };
        List<String> errors = new ArrayList<>();
        JavacTask task = (JavacTask) ToolProvider.getSystemJavaCompiler().getTask(null, null,
                found -> errors.add("no Java: " + found), List.of("--release", "17"), null, List.of(file));
        CompilationUnitTree unit = task.parse().iterator().next();
        Form form = new Form(unit, Trees.instance(task).getSourcePositions());
        form.scan(unit, null);
        form.lookAtDepth();
        form.faults.addAll(errors);
        return form.faults;
    }

    private void fault(int rule, String what) {
        faults.add("rule " + rule + ": " + what);
    }

    @Override
    public Void scan(Tree tree, Void nothing) {
        if (tree != null && !LOOKED_AT.contains(tree.getKind())) {
            lookAtOther(tree);
        }
        return super.scan(tree, nothing);
    }

    private void lookAtOther(Tree tree) {
        String what = tree.getKind() + " " + tree;
        Kind kind = tree.getKind();
        int rule = RULE_1.contains(kind) ? 1 : RULE_2.contains(kind) ? 2 : RULE_3.contains(kind) ? 3
                : RULE_4.contains(kind) ? 4 : RULE_6.contains(kind) ? 6 : 0;
        if (rule == 0) {
            faults.add("a form that src/test/support/Form.java does not know: " + what);
        } else {
            fault(rule, what);
        }
    }

    private Tree parent() {
        return getCurrentPath().getParentPath().getLeaf();
    }

    private Tree grandparent() {
        return getCurrentPath().getParentPath().getParentPath().getLeaf();
    }

    @Override
    public Void visitCompilationUnit(CompilationUnitTree tree, Void nothing) {
        if (tree.getTypeDecls().size() != 1) {
            fault(1, "not one class");
        }
        return super.visitCompilationUnit(tree, nothing);
    }

    @Override
    public Void visitClass(ClassTree tree, Void nothing) {
        if (parent() != unit) {
            fault(1, "a nested class");
        }
        int fields = 0;
        for (Tree member : tree.getMembers()) {
            if (member instanceof VariableTree) {
                fields += noteField((VariableTree) member);
            } else if (member instanceof MethodTree) {
                noteMethod((MethodTree) member);
            } else {
                fault(member.getKind() == Kind.BLOCK ? 5 : 1, "a member " + member.getKind());
            }
        }
        if (fields > 40) {
            fault(10, fields + " fields");
        }
        return super.visitClass(tree, nothing);
    }

    /** All members are noted before any is looked at, since one may stand after its use. */
    private int noteField(VariableTree field) {
        if (!isStatic(field.getModifiers())) {
            return 1;
        }
        constants.add(field.getName().toString());
        return 0;
    }

    private void noteMethod(MethodTree tree) {
        if (calls.put(tree.getName().toString(), new TreeSet<>()) != null) {
            fault(1, "a second method " + tree.getName());
        }
    }

    @Override
    public Void visitModifiers(ModifiersTree tree, Void nothing) {
        boolean visible = !tree.getFlags().contains(Modifier.PUBLIC) && !tree.getFlags().contains(Modifier.PRIVATE);
        if (!MODIFIERS.containsAll(tree.getFlags())) {
            fault(6, "modifiers " + tree.getFlags());
        }
        if (visible && grandparent() instanceof ClassTree) {
            fault(1, "a package-visible member: " + parent());
        }
        return super.visitModifiers(tree, nothing);
    }

    private static boolean isStatic(ModifiersTree modifiers) {
        return modifiers.getFlags().contains(Modifier.STATIC);
    }

    @Override
    public Void visitVariable(VariableTree tree, Void nothing) {
        if (!isTypeOfNumbers(tree.getType())) {
            fault(2, "type of " + tree);
        }
        if (tree.getType() instanceof ArrayTypeTree) {
            arrays.add(tree.getName().toString());
        }
        if (isStatic(tree.getModifiers())) {
            lookAtConstant(tree);
        }
        return super.visitVariable(tree, nothing);
    }

    private static boolean isTypeOfNumbers(Tree type) {
        return type instanceof PrimitiveTypeTree || type instanceof ArrayTypeTree;
    }

    private void lookAtConstant(VariableTree tree) {
        String type = String.valueOf(tree.getType());
        boolean isFinal = tree.getModifiers().getFlags().contains(Modifier.FINAL);
        if (!isFinal || !(type.equals("int") || type.equals("long")) || !isConstant(tree.getInitializer())) {
            fault(5, "no constant: " + tree);
        }
    }

    /** Whether a number is made of literals and constants alone. */
    private boolean isConstant(ExpressionTree tree) {
        if (tree instanceof BinaryTree) {
            BinaryTree binary = (BinaryTree) tree;
            return isConstant(binary.getLeftOperand()) && isConstant(binary.getRightOperand());
        }
        if (tree instanceof UnaryTree) {
            return isConstant(((UnaryTree) tree).getExpression());
        }
        if (tree instanceof ParenthesizedTree) {
            return isConstant(((ParenthesizedTree) tree).getExpression());
        }
        return tree != null && (tree.getKind() == Kind.INT_LITERAL || constants.contains(tree.toString()));
    }

    @Override
    public Void visitPrimitiveType(PrimitiveTypeTree tree, Void nothing) {
        boolean answersNothing = tree.getPrimitiveTypeKind() == TypeKind.VOID && parent() instanceof MethodTree;
        if (!answersNothing && !NUMBERS.contains(tree.getPrimitiveTypeKind())) {
            fault(2, "type " + tree);
        }
        return super.visitPrimitiveType(tree, nothing);
    }

    @Override
    public Void visitArrayType(ArrayTypeTree tree, Void nothing) {
        if (!(tree.getType() instanceof PrimitiveTypeTree)) {
            fault(2, "type " + tree);
        }
        return super.visitArrayType(tree, nothing);
    }

    @Override
    public Void visitNewArray(NewArrayTree tree, Void nothing) {
        boolean inField = parent() instanceof VariableTree && grandparent() instanceof ClassTree;
        if (!inField || tree.getInitializers() != null || !isConstant(tree.getDimensions().get(0))) {
            fault(4, "an array is made: " + tree);
        }
        return super.visitNewArray(tree, nothing);
    }

    /** An array is only reached into or handed on: no comparing, answering, assigning or renaming. */
    @Override
    public Void visitIdentifier(IdentifierTree tree, Void nothing) {
        if (arrays.contains(tree.getName().toString())) {
            boolean reachedInto = parent() instanceof ArrayAccessTree
                    && ((ArrayAccessTree) parent()).getExpression() == tree;
            if (!reachedInto && !(parent() instanceof MethodInvocationTree)) {
                fault(4, "array " + tree + " in " + parent());
            }
        }
        return super.visitIdentifier(tree, nothing);
    }

    @Override
    public Void visitBinary(BinaryTree tree, Void nothing) {
        boolean divides = tree.getKind() == Kind.DIVIDE || tree.getKind() == Kind.REMAINDER;
        if (divides && !isConstant(tree.getRightOperand())) {
            fault(7, "a divisor that is no constant: " + tree);
        }
        return super.visitBinary(tree, nothing);
    }

    @Override
    public Void visitMethod(MethodTree tree, Void nothing) {
        method = tree.getName().toString();
        if (tree.getReturnType() != null && !isTypeOfNumbers(tree.getReturnType())) {
            fault(2, "type of " + method);
        }
        if (tree.getReturnType() instanceof ArrayTypeTree) {
            fault(4, "an array is answered by " + method);
        }
        if (!tree.getThrows().isEmpty()) {
            fault(6, method + " throws");
        }
        if (tree.getParameters().size() > 7) {
            fault(10, "parameters of " + method);
        }
        long lines = lineOf(positions.getEndPosition(unit, tree)) - lineOf(positions.getStartPosition(unit, tree)) + 1;
        if (lines > 60) {
            fault(10, lines + " lines of " + method);
        }
        return super.visitMethod(tree, nothing);
    }

    private long lineOf(long position) {
        return unit.getLineMap().getLineNumber(position);
    }

    @Override
    public Void visitMethodInvocation(MethodInvocationTree tree, Void nothing) {
        String called = tree.getMethodSelect().toString();
        if (!calls.containsKey(called)) {
            fault(3, "a call of " + called);
        } else if (calls.containsKey(method)) {
            calls.get(method).add(called);
        }
        for (ExpressionTree argument : tree.getArguments()) {
            if (hasCall(argument)) {
                fault(10, "a call inside the arguments of " + called);
            }
        }
        return super.visitMethodInvocation(tree, nothing);
    }

    private static boolean hasCall(Tree tree) {
        boolean[] found = {false};
        new TreeScanner<Void, Void>() {
            @Override
            public Void visitMethodInvocation(MethodInvocationTree call, Void nothing) {
                found[0] = true;
                return null;
            }
        }.scan(tree, null);
        return found[0];
    }

    /** A method is as deep as the deepest that it calls and one more; a circle would never come to an end. */
    private void lookAtDepth() {
        Map<String, Integer> depth = new HashMap<>();
        for (int round = 0; round <= calls.size(); round++) {
            for (String caller : calls.keySet()) {
                int deepest = 0;
                for (String called : calls.get(caller)) {
                    deepest = Math.max(deepest, depth.getOrDefault(called, 0));
                }
                depth.put(caller, deepest + 1);
            }
        }
        for (String caller : calls.keySet()) {
            if (depth.get(caller) > calls.size()) {
                fault(8, "recursion in " + caller);
            } else if (depth.get(caller) > 6) {
                fault(10, "calls from " + caller + " go " + depth.get(caller) + " deep");
            }
        }
    }

    @Override
    public Void visitForLoop(ForLoopTree tree, Void nothing) {
        boolean oneUpdate = tree.getUpdate().size() == 1;
        if (!oneUpdate || !ends(tree.getCondition(), tree.getUpdate().get(0), List.of(tree.getStatement()))) {
            fault(8, "no end can be seen: " + tree);
        }
        return super.visitForLoop(tree, nothing);
    }

    /** The step stands last in the body; a continue could pass over it. */
    @Override
    public Void visitWhileLoop(WhileLoopTree tree, Void nothing) {
        List<? extends StatementTree> body = tree.getStatement() instanceof BlockTree
                ? ((BlockTree) tree.getStatement()).getStatements() : List.of();
        int last = body.size() - 1;
        boolean passesOver = tree.toString().contains("continue");
        if (last < 0 || passesOver || !ends(tree.getCondition(), body.get(last), body.subList(0, last))) {
            fault(8, "no end can be seen: " + tree);
        }
        return super.visitWhileLoop(tree, nothing);
    }

    /**
     * Whether the condition begins with a counter against a bound, the step takes the counter towards
     * the bound, and the body writes into neither (a method that it calls is not looked into).
     */
    private static boolean ends(ExpressionTree condition, StatementTree step, List<? extends StatementTree> body) {
        ExpressionTree test = firstOf(condition);
        if (!(test instanceof BinaryTree) || !(step instanceof ExpressionStatementTree)) {
            return false;
        }
        ExpressionTree counter = ((BinaryTree) test).getLeftOperand();
        ExpressionTree bound = ((BinaryTree) test).getRightOperand();
        String up = counter + "++;";
        String down = counter + "--;";
        boolean towards = switch (test.getKind()) {
            case LESS_THAN, LESS_THAN_EQUAL -> step.toString().equals(up);
            case GREATER_THAN, GREATER_THAN_EQUAL -> step.toString().equals(down);
            default -> false;
        };
        Set<String> written = writtenIn(body);
        return towards && !written.contains(counter.toString()) && !written.contains(nameOf(bound));
    }

    private static ExpressionTree firstOf(ExpressionTree condition) {
        ExpressionTree first = condition;
        while (first instanceof ParenthesizedTree || first != null && first.getKind() == Kind.CONDITIONAL_AND) {
            first = first instanceof ParenthesizedTree ? ((ParenthesizedTree) first).getExpression()
                    : ((BinaryTree) first).getLeftOperand();
        }
        return first;
    }

    private static Set<String> writtenIn(List<? extends StatementTree> body) {
        Set<String> written = new HashSet<>();
        new TreeScanner<Void, Void>() {
            @Override
            public Void visitAssignment(AssignmentTree tree, Void nothing) {
                written.add(nameOf(tree.getVariable()));
                return super.visitAssignment(tree, nothing);
            }

            @Override
            public Void visitCompoundAssignment(CompoundAssignmentTree tree, Void nothing) {
                written.add(nameOf(tree.getVariable()));
                return super.visitCompoundAssignment(tree, nothing);
            }

            @Override
            public Void visitUnary(UnaryTree tree, Void nothing) {
                if (tree.getKind() == Kind.POSTFIX_INCREMENT || tree.getKind() == Kind.POSTFIX_DECREMENT) {
                    written.add(nameOf(tree.getExpression()));
                }
                return super.visitUnary(tree, nothing);
            }
        }.scan(body, null);
        return written;
    }

    private static String nameOf(ExpressionTree variable) {
        return variable instanceof ArrayAccessTree ? ((ArrayAccessTree) variable).getExpression().toString()
                : variable.toString();
    }
}
