import com.sun.source.tree.ArrayTypeTree;
import com.sun.source.tree.AssignmentTree;
import com.sun.source.tree.BinaryTree;
import com.sun.source.tree.ClassTree;
import com.sun.source.tree.CompilationUnitTree;
import com.sun.source.tree.CompoundAssignmentTree;
import com.sun.source.tree.ExpressionTree;
import com.sun.source.tree.ForLoopTree;
import com.sun.source.tree.IdentifierTree;
import com.sun.source.tree.MethodInvocationTree;
import com.sun.source.tree.MethodTree;
import com.sun.source.tree.NewArrayTree;
import com.sun.source.tree.PrimitiveTypeTree;
import com.sun.source.tree.Tree;
import com.sun.source.tree.UnaryTree;
import com.sun.source.tree.VariableTree;
import com.sun.source.util.JavacTask;
import com.sun.source.util.SourcePositions;
import com.sun.source.util.TreeScanner;
import com.sun.source.util.Trees;
import java.io.IOException;
import java.nio.file.Path;
import java.util.EnumSet;
import java.util.HashMap;
import java.util.HashSet;
import java.util.List;
import java.util.Map;
import java.util.Set;
import java.util.TreeSet;
import javax.lang.model.element.Modifier;
import javax.lang.model.type.TypeKind;
import javax.tools.JavaCompiler;
import javax.tools.StandardJavaFileManager;
import javax.tools.ToolProvider;

/**
 * The class keeps to the rules of LANGUAGE.md, as far as its syntax tree tells: each fault is told with the rule's
 * number. Where a rule leaves more than the class uses, the narrower use is what is tested here.
 */
public final class LanguageTest {
    private static final Path SOURCE = Path.of("src/main/java/QuorumCells.java");
    private static final int MOST_PARAMETERS = 7;
    private static final int MOST_LINES = 60;
    private static final int MOST_DEPTH = 6;
    private static final int MOST_FIELDS = 40;

    /** Kinds of trees that no rule leaves, or that the class does without. */
    private static final Map<Tree.Kind, Integer> RULE_AGAINST = new HashMap<>();

    static {
        against(1, Tree.Kind.INTERFACE, Tree.Kind.ENUM, Tree.Kind.RECORD, Tree.Kind.ANNOTATION_TYPE);
        against(2, Tree.Kind.STRING_LITERAL, Tree.Kind.FLOAT_LITERAL, Tree.Kind.DOUBLE_LITERAL);
        against(3, Tree.Kind.IMPORT, Tree.Kind.MEMBER_SELECT, Tree.Kind.NEW_CLASS, Tree.Kind.ANNOTATION);
        against(4, Tree.Kind.NULL_LITERAL);
        against(6, Tree.Kind.THROW, Tree.Kind.TRY, Tree.Kind.SYNCHRONIZED, Tree.Kind.ASSERT, Tree.Kind.INSTANCE_OF,
            Tree.Kind.LAMBDA_EXPRESSION, Tree.Kind.MEMBER_REFERENCE, Tree.Kind.TYPE_CAST);
        against(8, Tree.Kind.WHILE_LOOP, Tree.Kind.DO_WHILE_LOOP, Tree.Kind.ENHANCED_FOR_LOOP);
    }

    private static int wrong = 0;

    private static void against(int rule, Tree.Kind... kinds) {
        for (Tree.Kind kind : kinds) {
            RULE_AGAINST.put(kind, rule);
        }
    }

    private static void fault(int rule, String what) {
        wrong++;
        System.out.println("rule " + rule + ": " + what);
    }

    public static void main(String[] args) throws IOException {
        JavaCompiler compiler = ToolProvider.getSystemJavaCompiler();
        try (StandardJavaFileManager files = compiler.getStandardFileManager(null, null, null)) {
            JavacTask task = (JavacTask) compiler.getTask(null, files, null, List.of("--release", "17"), null,
                files.getJavaFileObjects(SOURCE));
            SourcePositions positions = Trees.instance(task).getSourcePositions();
            for (CompilationUnitTree unit : task.parse()) {
                new LanguageTest(unit, positions).check();
            }
        }
        System.out.println(wrong == 0 ? "the rules are kept" : wrong + " faults against the rules");
        if (wrong != 0) {
            System.exit(1);
        }
    }

    private final CompilationUnitTree unit;
    private final SourcePositions positions;
    private final Set<String> methods = new TreeSet<>();
    private final Set<String> constants = new HashSet<>();
    private final Set<String> arrays = new HashSet<>();
    private final Map<String, Set<String>> callees = new HashMap<>();

    private LanguageTest(CompilationUnitTree unit, SourcePositions positions) {
        this.unit = unit;
        this.positions = positions;
    }

    private void check() {
        if (unit.getPackage() != null || unit.getTypeDecls().size() != 1) {
            fault(1, "one class without a package line is due");
        }
        ClassTree type = (ClassTree) unit.getTypeDecls().get(0);
        int fields = 0;
        for (Tree member : type.getMembers()) {
            if (member instanceof VariableTree field) {
                fields += isStatic(field) ? 0 : 1;
                checkField(field);
            } else if (member instanceof MethodTree method) {
                checkMethod(method);
            } else {
                fault(1, "neither a field nor a method: " + member);
            }
        }
        if (fields > MOST_FIELDS) {
            fault(10, fields + " fields");
        }
        new Rules().scan(unit, null);
        checkCalls();
    }

    private long line(Tree tree) {
        return unit.getLineMap().getLineNumber(positions.getStartPosition(unit, tree));
    }

    private long lastLine(Tree tree) {
        return unit.getLineMap().getLineNumber(positions.getEndPosition(unit, tree));
    }

    private static boolean isStatic(VariableTree field) {
        return field.getModifiers().getFlags().contains(Modifier.STATIC);
    }

    private static boolean isNumber(Tree type) {
        return type instanceof PrimitiveTypeTree number
            && !EnumSet.of(TypeKind.FLOAT, TypeKind.DOUBLE, TypeKind.VOID).contains(number.getPrimitiveTypeKind());
    }

    private void checkField(VariableTree field) {
        String name = field.getName().toString();
        boolean isFinal = field.getModifiers().getFlags().contains(Modifier.FINAL);
        if (isStatic(field)) {
            constants.add(name);
            if (!isFinal || !Set.of("int", "long").contains(field.getType().toString())) {
                fault(5, "a static field that is no constant of int or long: " + name);
            }
        }
        if (field.getType() instanceof ArrayTypeTree) {
            arrays.add(name);
            if (!isFinal || !(field.getInitializer() instanceof NewArrayTree)) {
                fault(4, "an array that isn't final and made in its initialiser: " + name);
            }
        }
    }

    private void checkMethod(MethodTree method) {
        String name = method.getName().toString();
        // Names that stand once also make the calls below plain to follow.
        if (!methods.add(name)) {
            fault(1, "two methods of one name: " + name);
        }
        if (method.getParameters().size() > MOST_PARAMETERS) {
            fault(10, method.getParameters().size() + " parameters: " + name);
        }
        long lines = lastLine(method) - line(method) + 1;
        if (lines > MOST_LINES) {
            fault(10, lines + " lines: " + name);
        }
        Tree answer = method.getReturnType();
        if (answer != null && !answer.toString().equals("void") && !isNumber(answer)) {
            fault(answer instanceof ArrayTypeTree ? 4 : 2, "what it answers is no number: " + name);
        }
    }

    /** Looks at each tree of the class by itself. */
    private final class Rules extends TreeScanner<Void, Void> {
        private String method = "";
        private boolean isInArguments = false;

        @Override
        public Void scan(Tree tree, Void none) {
            if (tree != null && RULE_AGAINST.containsKey(tree.getKind())) {
                fault(RULE_AGAINST.get(tree.getKind()), tree.getKind() + " in line " + line(tree));
            }
            return super.scan(tree, none);
        }

        @Override
        public Void visitMethod(MethodTree tree, Void none) {
            method = tree.getName().toString();
            callees.put(method, new TreeSet<>());
            super.visitMethod(tree, none);
            method = "";
            return none;
        }

        @Override
        public Void visitVariable(VariableTree tree, Void none) {
            Tree type = tree.getType();
            boolean isArrayField = method.isEmpty() && type instanceof ArrayTypeTree array && isNumber(array.getType());
            if (!isNumber(type) && !isArrayField) {
                fault(2, "the type of " + tree.getName() + " in line " + line(tree));
            }
            return super.visitVariable(tree, none);
        }

        @Override
        public Void visitNewArray(NewArrayTree tree, Void none) {
            if (!method.isEmpty()) {
                fault(4, "an array made outside of a field's initialiser in line " + line(tree));
            }
            if (tree.getDimensions().size() != 1 || !isConstant(tree.getDimensions().get(0))) {
                fault(4, "a length that is no constant in line " + line(tree));
            }
            return super.visitNewArray(tree, none);
        }

        @Override
        public Void visitMethodInvocation(MethodInvocationTree tree, Void none) {
            if (isInArguments) {
                fault(10, "a call inside the arguments of another in line " + line(tree));
            }
            String callee = tree.getMethodSelect().toString();
            if (method.isEmpty() || !methods.contains(callee)) {
                fault(3, "a call of " + callee + " in line " + line(tree));
            } else {
                callees.get(method).add(callee);
            }
            boolean wasInArguments = isInArguments;
            isInArguments = true;
            scan(tree.getArguments(), none);
            isInArguments = wasInArguments;
            return scan(tree.getMethodSelect(), none);
        }

        @Override
        public Void visitAssignment(AssignmentTree tree, Void none) {
            if (isArray(tree.getVariable())) {
                fault(4, "an array field is assigned to in line " + line(tree));
            }
            return super.visitAssignment(tree, none);
        }

        @Override
        public Void visitBinary(BinaryTree tree, Void none) {
            if (isArray(tree.getLeftOperand()) || isArray(tree.getRightOperand())) {
                fault(4, "an array is compared in line " + line(tree));
            }
            boolean divides = tree.getKind() == Tree.Kind.DIVIDE || tree.getKind() == Tree.Kind.REMAINDER;
            if (divides && !isConstant(tree.getRightOperand())) {
                fault(7, "a divisor that is no constant in line " + line(tree));
            }
            return super.visitBinary(tree, none);
        }

        @Override
        public Void visitCompoundAssignment(CompoundAssignmentTree tree, Void none) {
            Tree.Kind kind = tree.getKind();
            if (kind == Tree.Kind.DIVIDE_ASSIGNMENT || kind == Tree.Kind.REMAINDER_ASSIGNMENT) {
                fault(7, "a division that is not looked at here in line " + line(tree));
            }
            return super.visitCompoundAssignment(tree, none);
        }

        @Override
        public Void visitForLoop(ForLoopTree tree, Void none) {
            if (!countsUp(tree)) {
                fault(8, "a loop that is no counter against a bound in line " + line(tree));
            }
            return super.visitForLoop(tree, none);
        }

        /** One counter, made here, raised by one and held against a bound; the body leaves both alone. */
        private boolean countsUp(ForLoopTree tree) {
            if (tree.getInitializer().size() != 1 || tree.getUpdate().size() != 1
                || !(tree.getInitializer().get(0) instanceof VariableTree counter)
                || !(tree.getCondition() instanceof BinaryTree condition)) {
                return false;
            }
            String name = counter.getName().toString();
            ExpressionTree bound = condition.getRightOperand();
            boolean isBounded = Set.of(Tree.Kind.LESS_THAN, Tree.Kind.LESS_THAN_EQUAL).contains(condition.getKind())
                && condition.getLeftOperand().toString().equals(name)
                && (bound instanceof IdentifierTree || isConstant(bound));
            Set<String> changed = changedIn(tree.getStatement());
            return isBounded && tree.getUpdate().get(0).getExpression().toString().equals(name + "++")
                && !changed.contains(name) && !changed.contains(bound.toString());
        }

        private Set<String> changedIn(Tree body) {
            Set<String> names = new HashSet<>();
            new TreeScanner<Void, Void>() {
                @Override
                public Void visitAssignment(AssignmentTree tree, Void none) {
                    names.add(tree.getVariable().toString());
                    return super.visitAssignment(tree, none);
                }

                @Override
                public Void visitCompoundAssignment(CompoundAssignmentTree tree, Void none) {
                    names.add(tree.getVariable().toString());
                    return super.visitCompoundAssignment(tree, none);
                }

                @Override
                public Void visitUnary(UnaryTree tree, Void none) {
                    if (!Set.of(Tree.Kind.UNARY_MINUS, Tree.Kind.LOGICAL_COMPLEMENT).contains(tree.getKind())) {
                        names.add(tree.getExpression().toString());
                    }
                    return super.visitUnary(tree, none);
                }
            }.scan(body, null);
            return names;
        }

        private boolean isArray(ExpressionTree tree) {
            return tree instanceof IdentifierTree && arrays.contains(tree.toString());
        }

        private boolean isConstant(ExpressionTree tree) {
            return tree.getKind() == Tree.Kind.INT_LITERAL || constants.contains(tree.toString());
        }
    }

    private void checkCalls() {
        for (String name : methods) {
            if (goesDeeper(name, MOST_DEPTH)) {
                fault(10, "calls from " + name + " go more than " + MOST_DEPTH + " deep, or in a circle (rule 8)");
            }
        }
    }

    private boolean goesDeeper(String name, int depth) {
        if (depth == 0) {
            return true;
        }
        for (String callee : callees.getOrDefault(name, Set.of())) {
            if (goesDeeper(callee, depth - 1)) {
                return true;
            }
        }
        return false;
    }
}
