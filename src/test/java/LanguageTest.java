import com.sun.source.tree.AssignmentTree;
import com.sun.source.tree.BinaryTree;
import com.sun.source.tree.BlockTree;
import com.sun.source.tree.BreakTree;
import com.sun.source.tree.ClassTree;
import com.sun.source.tree.CompilationUnitTree;
import com.sun.source.tree.CompoundAssignmentTree;
import com.sun.source.tree.DoWhileLoopTree;
import com.sun.source.tree.ExpressionTree;
import com.sun.source.tree.ForLoopTree;
import com.sun.source.tree.IdentifierTree;
import com.sun.source.tree.IfTree;
import com.sun.source.tree.LiteralTree;
import com.sun.source.tree.MemberSelectTree;
import com.sun.source.tree.MethodInvocationTree;
import com.sun.source.tree.MethodTree;
import com.sun.source.tree.NewArrayTree;
import com.sun.source.tree.ParenthesizedTree;
import com.sun.source.tree.ReturnTree;
import com.sun.source.tree.Tree;
import com.sun.source.tree.TypeCastTree;
import com.sun.source.tree.UnaryTree;
import com.sun.source.tree.VariableTree;
import com.sun.source.tree.WhileLoopTree;
import com.sun.source.util.JavacTask;
import com.sun.source.util.SourcePositions;
import com.sun.source.util.TreePath;
import com.sun.source.util.TreePathScanner;
import com.sun.source.util.TreeScanner;
import com.sun.source.util.Trees;
import java.io.File;
import java.util.EnumSet;
import java.util.HashMap;
import java.util.HashSet;
import java.util.LinkedHashSet;
import java.util.List;
import java.util.Map;
import java.util.Set;
import javax.lang.model.element.Element;
import javax.lang.model.element.ElementKind;
import javax.lang.model.element.Modifier;
import javax.lang.model.element.VariableElement;
import javax.lang.model.type.ArrayType;
import javax.lang.model.type.TypeKind;
import javax.lang.model.type.TypeMirror;
import javax.tools.JavaCompiler;
import javax.tools.StandardJavaFileManager;
import javax.tools.ToolProvider;

/**
 * What the source itself shows of the rules of LANGUAGE.md, and no more than they ask. FaceTest has what
 * belongs to the face, and NeverThrowsTest tries rule 7. Where a rule can't be read off the source for sure
 * (does a loop count in every round?), this test lets a doubtful case through rather than a lawful one fail.
 */
public final class LanguageTest {
    private static final String SOURCE = "src/main/java/TreePaths.java";
    private static final int MOST_LINES = 60;
    private static final int MOST_DEPTH = 6;
    private static final int MOST_FIELDS = 40;
    private static final int MOST_PARAMETERS = 7;

    private static final Map<Integer, Set<Tree.Kind>> FORBIDDEN = Map.of(
            1, EnumSet.of(Tree.Kind.PACKAGE, Tree.Kind.INTERFACE, Tree.Kind.ENUM, Tree.Kind.RECORD,
                    Tree.Kind.ANNOTATION_TYPE),
            2, EnumSet.of(Tree.Kind.STRING_LITERAL, Tree.Kind.FLOAT_LITERAL, Tree.Kind.DOUBLE_LITERAL,
                    Tree.Kind.PARAMETERIZED_TYPE),
            3, EnumSet.of(Tree.Kind.IMPORT, Tree.Kind.ANNOTATION),
            4, EnumSet.of(Tree.Kind.NEW_CLASS, Tree.Kind.NULL_LITERAL),
            6, EnumSet.of(Tree.Kind.THROW, Tree.Kind.TRY, Tree.Kind.CATCH, Tree.Kind.SYNCHRONIZED,
                    Tree.Kind.ASSERT, Tree.Kind.INSTANCE_OF, Tree.Kind.LAMBDA_EXPRESSION,
                    Tree.Kind.MEMBER_REFERENCE));

    private static final Set<Tree.Kind> CALL = EnumSet.of(Tree.Kind.METHOD_INVOCATION);
    private static final Set<Tree.Kind> LOOPS = EnumSet.of(Tree.Kind.FOR_LOOP, Tree.Kind.ENHANCED_FOR_LOOP,
            Tree.Kind.WHILE_LOOP, Tree.Kind.DO_WHILE_LOOP);
    private static final Set<Tree.Kind> CONDITIONS = EnumSet.of(Tree.Kind.IF, Tree.Kind.SWITCH,
            Tree.Kind.SWITCH_EXPRESSION, Tree.Kind.CONDITIONAL_EXPRESSION, Tree.Kind.CONDITIONAL_AND,
            Tree.Kind.CONDITIONAL_OR);
    private static final Set<TypeKind> NUMBERS = EnumSet.of(TypeKind.INT, TypeKind.LONG, TypeKind.SHORT,
            TypeKind.BYTE, TypeKind.CHAR, TypeKind.BOOLEAN);

    private static int wrong = 0;

    public static void main(String[] args) throws Exception {
        JavaCompiler compiler = ToolProvider.getSystemJavaCompiler();
        StandardJavaFileManager files = compiler.getStandardFileManager(null, null, null);
        JavacTask task = (JavacTask) compiler.getTask(null, files, null, null, null,
                files.getJavaFileObjects(new File(SOURCE)));
        CompilationUnitTree unit = task.parse().iterator().next();
        task.analyze();
        check(unit, Trees.instance(task));
        System.out.println(wrong == 0 ? "the language is as due" : wrong + " faults in the language");
        if (wrong != 0) {
            System.exit(1);
        }
    }

    private static void check(CompilationUnitTree unit, Trees trees) {
        if (unit.getTypeDecls().size() != 1) {
            System.out.println("rule 1: there is not one class alone");
            wrong++;
            return;
        }
        Scanner scanner = new Scanner(unit, trees, (ClassTree) unit.getTypeDecls().get(0));
        scanner.scan(unit, null);
        scanner.checkCalls();
        scanner.checkFields();
        scanner.checkConstructor();
    }

    private static boolean isNumber(TypeMirror type) {
        return NUMBERS.contains(type.getKind());
    }

    private static boolean isArray(TypeMirror type) {
        return type instanceof ArrayType array && isNumber(array.getComponentType());
    }

    private static final class Scanner extends TreePathScanner<Void, Void> {
        private final CompilationUnitTree unit;
        private final Trees trees;
        private final SourcePositions positions;
        private final ClassTree program;
        private final Element self;
        private final Map<Element, Set<Element>> calls = new HashMap<>();
        private Element method = null;
        private long lastArrayMade = -1;
        private Tree firstCallOnItself = null;

        Scanner(CompilationUnitTree unit, Trees trees, ClassTree program) {
            this.unit = unit;
            this.trees = trees;
            this.positions = trees.getSourcePositions();
            this.program = program;
            this.self = element(program);
        }

        private Element element(Tree tree) {
            return trees.getElement(TreePath.getPath(unit, tree));
        }

        private TypeMirror type(Tree tree) {
            return trees.getTypeMirror(TreePath.getPath(unit, tree));
        }

        private boolean namesAnArray(Tree tree) {
            TypeMirror type = type(tree);
            return type != null && type.getKind() == TypeKind.ARRAY;
        }

        private void fault(int rule, Tree tree, String what) {
            wrong++;
            System.out.println("rule " + rule + ", line " + line(positions.getStartPosition(unit, tree)) + ": "
                    + what + ": " + tree.toString().strip().lines().findFirst().orElse(""));
        }

        private long line(long position) {
            return unit.getLineMap().getLineNumber(position);
        }

        /** Whether the tree that is looked at stands inside one of these, in its method. */
        private boolean isInside(Set<Tree.Kind> kinds) {
            for (TreePath path = getCurrentPath().getParentPath(); path != null; path = path.getParentPath()) {
                if (path.getLeaf() instanceof MethodTree) {
                    return false;
                }
                if (kinds.contains(path.getLeaf().getKind())) {
                    return true;
                }
            }
            return false;
        }

        @Override
        public Void scan(Tree tree, Void nothing) {
            for (Map.Entry<Integer, Set<Tree.Kind>> forbidden : FORBIDDEN.entrySet()) {
                if (tree != null && forbidden.getValue().contains(tree.getKind())) {
                    fault(forbidden.getKey(), tree, tree.getKind() + " is not used here");
                }
            }
            return super.scan(tree, nothing);
        }

        @Override
        public Void visitClass(ClassTree declared, Void nothing) {
            if (declared != program) {
                fault(1, declared, "is a class inside");
            }
            return super.visitClass(declared, nothing);
        }

        @Override
        public Void visitMethod(MethodTree declared, Void nothing) {
            method = trees.getElement(getCurrentPath());
            calls.putIfAbsent(method, new LinkedHashSet<>());
            Tree answer = declared.getReturnType();
            if (answer != null && type(answer).getKind() != TypeKind.VOID && !isNumber(type(answer))) {
                fault(2, declared, "answers neither a number nor a boolean");
            }
            if (declared.getModifiers().getFlags().contains(Modifier.SYNCHRONIZED)) {
                fault(6, declared, "is synchronized");
            }
            if (declared.getParameters().size() > MOST_PARAMETERS) {
                fault(10, declared, "has too many parameters");
            }
            long first = line(positions.getStartPosition(unit, declared));
            long last = line(positions.getEndPosition(unit, declared));
            if (last - first + 1 > MOST_LINES) {
                fault(10, declared, "is too long");
            }
            super.visitMethod(declared, nothing);
            method = null;
            return null;
        }

        private boolean isInConstructor() {
            return method != null && method.getKind() == ElementKind.CONSTRUCTOR;
        }

        // Rules 2, 3 and 6: types and names

        @Override
        public Void visitVariable(VariableTree variable, Void nothing) {
            TypeMirror type = trees.getElement(getCurrentPath()).asType();
            if (!isNumber(type) && !isArray(type)) {
                fault(2, variable, "is neither a number nor a row of numbers");
            }
            return super.visitVariable(variable, nothing);
        }

        @Override
        public Void visitTypeCast(TypeCastTree cast, Void nothing) {
            TypeMirror type = type(cast.getType());
            if (!isNumber(type)) {
                fault(type.getKind().isPrimitive() ? 2 : 6, cast, "is no cast between the number types");
            }
            return super.visitTypeCast(cast, nothing);
        }

        @Override
        public Void visitIdentifier(IdentifierTree name, Void nothing) {
            if (!isOwn(trees.getElement(getCurrentPath())) && !isImplied(name)) {
                fault(3, name, "is not of this class");
            }
            return super.visitIdentifier(name, nothing);
        }

        @Override
        public Void visitMemberSelect(MemberSelectTree select, Void nothing) {
            boolean isLength = select.getIdentifier().contentEquals("length")
                    && namesAnArray(select.getExpression());
            if (!isLength && !isOwn(trees.getElement(getCurrentPath()))) {
                fault(3, select, "is not of this class");
            }
            return super.visitMemberSelect(select, nothing);
        }

        private boolean isOwn(Element named) {
            return named != null && (named.equals(self) || self.equals(named.getEnclosingElement())
                    || named.getKind() == ElementKind.LOCAL_VARIABLE || named.getKind() == ElementKind.PARAMETER);
        }

        /** The compiler puts the call of Object's constructor into each constructor by itself. */
        private boolean isImplied(IdentifierTree name) {
            return isInConstructor() && name.getName().contentEquals("super")
                    && getCurrentPath().getParentPath().getLeaf() instanceof MethodInvocationTree call
                    && call.getMethodSelect() == name;
        }

        // Rule 4: arrays

        @Override
        public Void visitNewArray(NewArrayTree made, Void nothing) {
            Tree parent = getCurrentPath().getParentPath().getLeaf();
            if (isInConstructor()) {
                lastArrayMade = Math.max(lastArrayMade, positions.getStartPosition(unit, made));
                if (isInside(LOOPS) || isInside(CONDITIONS)) {
                    fault(4, made, "is made in a loop or behind a condition");
                }
            } else if (!program.getMembers().contains(parent)) {
                fault(4, made, "is made neither in a field's initialiser nor in the constructor");
            }
            List<? extends ExpressionTree> lengths = made.getDimensions();
            if (lengths.size() != 1 || made.getInitializers() != null || !isConstant(lengths.get(0))) {
                fault(4, made, "has no length that is a literal or a constant");
            } else if (lengths.get(0) instanceof LiteralTree || lengths.get(0) instanceof IdentifierTree) {
                if (constant(lengths.get(0)) < 1) {
                    fault(4, made, "has a length below 1");
                }
            }
            return super.visitNewArray(made, nothing);
        }

        /** Whether literals and constants alone make up the expression. */
        private boolean isConstant(ExpressionTree value) {
            boolean[] constant = {true};
            new TreeScanner<Void, Void>() {
                @Override
                public Void visitIdentifier(IdentifierTree name, Void nothing) {
                    constant[0] &= hasConstantValue(name);
                    return null;
                }

                @Override
                public Void visitMemberSelect(MemberSelectTree select, Void nothing) {
                    constant[0] &= hasConstantValue(select);
                    return null;
                }
            }.scan(value, null);
            return constant[0];
        }

        private boolean hasConstantValue(Tree name) {
            return element(name) instanceof VariableElement variable && variable.getConstantValue() != null;
        }

        /** The value of a literal or of a named constant; 0 for all else. */
        private long constant(ExpressionTree value) {
            Object held = null;
            if (value instanceof LiteralTree literal) {
                held = literal.getValue();
            } else if (element(value) instanceof VariableElement named) {
                held = named.getConstantValue();
            }
            return held instanceof Number number ? number.longValue() : 0;
        }

        @Override
        public Void visitAssignment(AssignmentTree assigned, Void nothing) {
            if (namesAnArray(assigned.getVariable())) {
                if (element(assigned.getVariable()).getKind() == ElementKind.FIELD && !isInConstructor()) {
                    fault(4, assigned, "gives an array field another array");
                }
                if (isInside(LOOPS)) {
                    fault(4, assigned, "changes to another array inside a loop");
                }
            }
            return super.visitAssignment(assigned, nothing);
        }

        @Override
        public Void visitBinary(BinaryTree binary, Void nothing) {
            boolean compares = binary.getKind() == Tree.Kind.EQUAL_TO || binary.getKind() == Tree.Kind.NOT_EQUAL_TO;
            if (compares && (namesAnArray(binary.getLeftOperand()) || namesAnArray(binary.getRightOperand()))) {
                fault(4, binary, "compares an array");
            }
            return super.visitBinary(binary, nothing);
        }

        void checkConstructor() {
            if (firstCallOnItself != null
                    && positions.getStartPosition(unit, firstCallOnItself) < lastArrayMade) {
                fault(4, firstCallOnItself, "is called before all arrays are made");
            }
        }

        // Rule 5: static fields

        @Override
        public Void visitBlock(BlockTree block, Void nothing) {
            if (block.isStatic()) {
                fault(5, block, "is a static initialiser");
            }
            return super.visitBlock(block, nothing);
        }

        void checkFields() {
            int held = 0;
            for (Tree member : program.getMembers()) {
                if (member instanceof VariableTree && element(member) instanceof VariableElement field) {
                    TypeKind kind = field.asType().getKind();
                    boolean constant = field.getConstantValue() != null
                            && (kind == TypeKind.INT || kind == TypeKind.LONG);
                    boolean ofTheClass = field.getModifiers().contains(Modifier.STATIC);
                    if (ofTheClass && !constant) {
                        fault(5, member, "is static, but no compile-time constant of int or long");
                    }
                    held += ofTheClass ? 0 : 1;
                }
            }
            if (held > MOST_FIELDS) {
                fault(10, program, "has " + held + " fields beside its constants");
            }
        }

        // Rules 8 and 10: calls

        @Override
        public Void visitMethodInvocation(MethodInvocationTree call, Void nothing) {
            Element called = element(call.getMethodSelect());
            if (called != null && self.equals(called.getEnclosingElement())) {
                calls.computeIfAbsent(method, caller -> new LinkedHashSet<>()).add(called);
                if (isInConstructor() && !called.getModifiers().contains(Modifier.STATIC)) {
                    firstCallOnItself = firstCallOnItself == null ? call : firstCallOnItself;
                    for (ExpressionTree argument : call.getArguments()) {
                        if (namesAnArray(argument)) {
                            fault(4, call, "is handed an array by the constructor");
                        }
                    }
                }
            }
            if (isInside(CALL)) {
                fault(10, call, "stands inside the arguments of another call");
            }
            return super.visitMethodInvocation(call, nothing);
        }

        void checkCalls() {
            for (Element caller : calls.keySet()) {
                int depth = depth(caller, new HashSet<>());
                if (depth > MOST_DEPTH) {
                    fault(10, program, caller + " goes " + depth + " calls deep, or comes back to itself (rule 8)");
                }
            }
        }

        /** How many methods stand one above the other, this one counted; too many if one comes back to itself. */
        private int depth(Element caller, Set<Element> above) {
            if (!above.add(caller)) {
                return MOST_DEPTH + 1;
            }
            int deepest = 0;
            for (Element called : calls.getOrDefault(caller, Set.of())) {
                deepest = Math.max(deepest, depth(called, above));
            }
            above.remove(caller);
            return deepest + 1;
        }

        // Rule 8: loops. One over an array (the enhanced for) ends with the array.

        @Override
        public Void visitForLoop(ForLoopTree loop, Void nothing) {
            LoopLines lines = new LoopLines();
            lines.scan(loop.getUpdate(), null);
            checkEnd(loop, loop.getCondition(), loop.getStatement(), lines);
            return super.visitForLoop(loop, nothing);
        }

        @Override
        public Void visitWhileLoop(WhileLoopTree loop, Void nothing) {
            checkEnd(loop, loop.getCondition(), loop.getStatement(), new LoopLines());
            return super.visitWhileLoop(loop, nothing);
        }

        @Override
        public Void visitDoWhileLoop(DoWhileLoopTree loop, Void nothing) {
            checkEnd(loop, loop.getCondition(), loop.getStatement(), new LoopLines());
            return super.visitDoWhileLoop(loop, nothing);
        }

        private void checkEnd(Tree loop, ExpressionTree condition, Tree body, LoopLines lines) {
            lines.scan(condition, null);
            lines.scan(body, null);
            lines.goesOnWhile(condition);
            if (!lines.showAnEnd()) {
                fault(8, loop, "has no counter against a bound");
            }
        }

        /** The lines of one loop: which way its variables count, and which way they meet a bound. */
        private final class LoopLines extends TreeScanner<Void, Void> {
            // 1 is upwards, -1 downwards, and 0 a change that is no counting.
            private final Map<Element, Set<Integer>> counting = new HashMap<>();
            private final Map<Element, Set<Integer>> bounded = new HashMap<>();

            boolean showAnEnd() {
                for (Map.Entry<Element, Set<Integer>> entry : counting.entrySet()) {
                    Set<Integer> ways = entry.getValue();
                    Set<Integer> bounds = bounded.getOrDefault(entry.getKey(), Set.of());
                    if (ways.size() == 1 && !ways.contains(0) && bounds.containsAll(ways)) {
                        return true;
                    }
                }
                return false;
            }

            private void note(Map<Element, Set<Integer>> ways, ExpressionTree named, long way) {
                Element variable = variable(named);
                if (variable != null) {
                    ways.computeIfAbsent(variable, found -> new HashSet<>()).add(Long.signum(way));
                }
            }

            /** The variable that is named, also in brackets or while it is counted (i++ < n). */
            private Element variable(ExpressionTree named) {
                if (named instanceof ParenthesizedTree brackets) {
                    return variable(brackets.getExpression());
                }
                if (named instanceof UnaryTree unary && way(unary) != 0) {
                    return variable(unary.getExpression());
                }
                return named instanceof IdentifierTree || named instanceof MemberSelectTree ? element(named) : null;
            }

            private int way(UnaryTree unary) {
                return switch (unary.getKind()) {
                    case POSTFIX_INCREMENT, PREFIX_INCREMENT -> 1;
                    case POSTFIX_DECREMENT, PREFIX_DECREMENT -> -1;
                    default -> 0;
                };
            }

            @Override
            public Void visitUnary(UnaryTree unary, Void nothing) {
                if (way(unary) != 0) {
                    note(counting, unary.getExpression(), way(unary));
                }
                return super.visitUnary(unary, nothing);
            }

            @Override
            public Void visitCompoundAssignment(CompoundAssignmentTree changed, Void nothing) {
                long by = constant(changed.getExpression());
                note(counting, changed.getVariable(), switch (changed.getKind()) {
                    case PLUS_ASSIGNMENT -> by;
                    case MINUS_ASSIGNMENT -> -by;
                    default -> 0;
                });
                return super.visitCompoundAssignment(changed, nothing);
            }

            @Override
            public Void visitAssignment(AssignmentTree assigned, Void nothing) {
                note(counting, assigned.getVariable(), way(assigned));
                return super.visitAssignment(assigned, nothing);
            }

            private long way(AssignmentTree assigned) {
                Element variable = variable(assigned.getVariable());
                if (variable != null && assigned.getExpression() instanceof BinaryTree counted
                        && variable.equals(variable(counted.getLeftOperand()))) {
                    long by = constant(counted.getRightOperand());
                    return counted.getKind() == Tree.Kind.PLUS ? by : counted.getKind() == Tree.Kind.MINUS ? -by : 0;
                }
                return 0;
            }

            @Override
            public Void visitIf(IfTree branch, Void nothing) {
                if (leaves(branch.getThenStatement())) {
                    endsWhen(branch.getCondition());
                }
                if (leaves(branch.getElseStatement())) {
                    goesOnWhile(branch.getCondition());
                }
                return super.visitIf(branch, nothing);
            }

            private boolean leaves(Tree lines) {
                boolean[] left = {false};
                new TreeScanner<Void, Void>() {
                    @Override
                    public Void visitBreak(BreakTree leaving, Void nothing) {
                        left[0] = true;
                        return null;
                    }

                    @Override
                    public Void visitReturn(ReturnTree leaving, Void nothing) {
                        left[0] = true;
                        return null;
                    }
                }.scan(lines, null);
                return left[0];
            }

            void goesOnWhile(ExpressionTree condition) {
                if (condition instanceof ParenthesizedTree brackets) {
                    goesOnWhile(brackets.getExpression());
                } else if (condition instanceof UnaryTree not) {
                    endsWhen(not.getExpression());
                } else if (condition instanceof BinaryTree binary) {
                    switch (binary.getKind()) {
                        case CONDITIONAL_AND -> {
                            goesOnWhile(binary.getLeftOperand());
                            goesOnWhile(binary.getRightOperand());
                        }
                        case LESS_THAN, LESS_THAN_EQUAL -> bound(binary, 1);
                        case GREATER_THAN, GREATER_THAN_EQUAL -> bound(binary, -1);
                        case NOT_EQUAL_TO -> boundBothWays(binary);
                        default -> { }
                    }
                }
            }

            void endsWhen(ExpressionTree condition) {
                if (condition instanceof ParenthesizedTree brackets) {
                    endsWhen(brackets.getExpression());
                } else if (condition instanceof UnaryTree not) {
                    goesOnWhile(not.getExpression());
                } else if (condition instanceof BinaryTree binary) {
                    switch (binary.getKind()) {
                        case CONDITIONAL_OR -> {
                            endsWhen(binary.getLeftOperand());
                            endsWhen(binary.getRightOperand());
                        }
                        case LESS_THAN, LESS_THAN_EQUAL -> bound(binary, -1);
                        case GREATER_THAN, GREATER_THAN_EQUAL -> bound(binary, 1);
                        case EQUAL_TO -> boundBothWays(binary);
                        default -> { }
                    }
                }
            }

            private void bound(BinaryTree comparison, int way) {
                note(bounded, comparison.getLeftOperand(), way);
                note(bounded, comparison.getRightOperand(), -way);
            }

            private void boundBothWays(BinaryTree comparison) {
                bound(comparison, 1);
                bound(comparison, -1);
            }
        }
    }
}
