import com.sun.source.tree.ArrayTypeTree;
import com.sun.source.tree.AssignmentTree;
import com.sun.source.tree.BlockTree;
import com.sun.source.tree.ClassTree;
import com.sun.source.tree.CompilationUnitTree;
import com.sun.source.tree.CompoundAssignmentTree;
import com.sun.source.tree.ExpressionTree;
import com.sun.source.tree.ForLoopTree;
import com.sun.source.tree.IdentifierTree;
import com.sun.source.tree.LiteralTree;
import com.sun.source.tree.MemberSelectTree;
import com.sun.source.tree.MethodInvocationTree;
import com.sun.source.tree.MethodTree;
import com.sun.source.tree.NewArrayTree;
import com.sun.source.tree.PrimitiveTypeTree;
import com.sun.source.tree.Tree;
import com.sun.source.tree.TypeCastTree;
import com.sun.source.tree.UnaryTree;
import com.sun.source.tree.VariableTree;
import com.sun.source.util.JavacTask;
import com.sun.source.util.SourcePositions;
import com.sun.source.util.TreePath;
import com.sun.source.util.TreePathScanner;
import com.sun.source.util.Trees;
import java.io.File;
import java.util.EnumSet;
import java.util.HashMap;
import java.util.HashSet;
import java.util.List;
import java.util.Map;
import java.util.Set;
import java.util.TreeSet;
import javax.lang.model.element.Modifier;
import javax.lang.model.type.TypeKind;
import javax.tools.JavaCompiler;
import javax.tools.StandardJavaFileManager;
import javax.tools.ToolProvider;

/**
 * The rules of LANGUAGE.md that the source itself shows. FaceTest has what belongs to the face, and that no
 * call throws (rule 7) is tried by the other tests. Where a rule leaves more than the class uses, this test
 * is the stricter one: loops are for loops alone, and all arrays are made in the fields' initialisers.
 */
public final class LanguageTest {
    private static final String SOURCE = "src/main/java/TreePaths.java";
    private static final int MOST_LINES = 60;
    private static final int MOST_DEPTH = 6;
    private static final int MOST_FIELDS = 40;
    private static final int MOST_PARAMETERS = 7;

    private static final Map<Integer, Set<Tree.Kind>> FORBIDDEN = Map.of(
            1, EnumSet.of(Tree.Kind.PACKAGE, Tree.Kind.INTERFACE, Tree.Kind.ENUM, Tree.Kind.RECORD,
                    Tree.Kind.ANNOTATION_TYPE),
            2, EnumSet.of(Tree.Kind.STRING_LITERAL, Tree.Kind.FLOAT_LITERAL, Tree.Kind.DOUBLE_LITERAL,
                    Tree.Kind.PARAMETERIZED_TYPE),
            3, EnumSet.of(Tree.Kind.IMPORT, Tree.Kind.ANNOTATION),
            4, EnumSet.of(Tree.Kind.NEW_CLASS, Tree.Kind.NULL_LITERAL),
            6, EnumSet.of(Tree.Kind.THROW, Tree.Kind.TRY, Tree.Kind.CATCH, Tree.Kind.SYNCHRONIZED,
                    Tree.Kind.ASSERT, Tree.Kind.INSTANCE_OF, Tree.Kind.LAMBDA_EXPRESSION,
                    Tree.Kind.MEMBER_REFERENCE),
            8, EnumSet.of(Tree.Kind.ENHANCED_FOR_LOOP, Tree.Kind.WHILE_LOOP, Tree.Kind.DO_WHILE_LOOP));

    private static int wrong = 0;

    public static void main(String[] args) throws Exception {
        JavaCompiler compiler = ToolProvider.getSystemJavaCompiler();
        StandardJavaFileManager files = compiler.getStandardFileManager(null, null, null);
        JavacTask task = (JavacTask) compiler.getTask(null, files, null, null, null,
                files.getJavaFileObjects(new File(SOURCE)));
        CompilationUnitTree unit = task.parse().iterator().next();
        SourcePositions positions = Trees.instance(task).getSourcePositions();
        check(unit, positions);
        System.out.println(wrong == 0 ? "the language is as due" : wrong + " faults in the language");
        if (wrong != 0) {
            System.exit(1);
        }
    }

    private static void check(CompilationUnitTree unit, SourcePositions positions) {
        if (unit.getTypeDecls().size() != 1) {
            System.out.println("rule 1: there is not one class alone");
            wrong++;
            return;
        }
        ClassTree program = (ClassTree) unit.getTypeDecls().get(0);
        Scanner scanner = new Scanner(unit, positions, program);
        scanner.scan(unit, null);
        scanner.checkCalls();
        scanner.checkFields();
    }

    private static final class Scanner extends TreePathScanner<Void, Void> {
        private final CompilationUnitTree unit;
        private final SourcePositions positions;
        private final ClassTree program;
        private final Map<String, VariableTree> fields = new HashMap<>();
        private final Map<String, Set<String>> calls = new HashMap<>();
        private String method = "";

        Scanner(CompilationUnitTree unit, SourcePositions positions, ClassTree program) {
            this.unit = unit;
            this.positions = positions;
            this.program = program;
            for (Tree member : program.getMembers()) {
                if (member instanceof VariableTree field) {
                    fields.put(field.getName().toString(), field);
                } else if (member instanceof MethodTree declared) {
                    calls.put(declared.getName().toString(), new TreeSet<>());
                } else {
                    fault(1, member, "is neither a field nor a method");
                }
            }
        }

        private void fault(int rule, Tree tree, String what) {
            wrong++;
            System.out.println("rule " + rule + ", line " + line(positions.getStartPosition(unit, tree)) + ": "
                    + what + ": " + tree.toString().strip().lines().findFirst().orElse(""));
        }

        private long line(long position) {
            return unit.getLineMap().getLineNumber(position);
        }

        @Override
        public Void scan(Tree tree, Void nothing) {
            for (Map.Entry<Integer, Set<Tree.Kind>> forbidden : FORBIDDEN.entrySet()) {
                if (tree != null && forbidden.getValue().contains(tree.getKind())) {
                    fault(forbidden.getKey(), tree, tree.getKind() + " is not used here");
                }
            }
            return super.scan(tree, nothing);
        }

        @Override
        public Void visitMethod(MethodTree declared, Void nothing) {
            method = declared.getName().toString();
            Tree answer = declared.getReturnType();
            if (answer != null && !isVoid(answer) && !isNumber(answer)) {
                fault(2, declared, "answers neither a number nor a boolean");
            }
            if (declared.getModifiers().getFlags().contains(Modifier.SYNCHRONIZED)) {
                fault(6, declared, "is synchronized");
            }
            if (declared.getParameters().size() > MOST_PARAMETERS) {
                fault(10, declared, "has too many parameters");
            }
            long first = line(positions.getStartPosition(unit, declared));
            long last = line(positions.getEndPosition(unit, declared));
            if (last - first + 1 > MOST_LINES) {
                fault(10, declared, "is too long");
            }
            super.visitMethod(declared, nothing);
            method = "";
            return null;
        }

        private static boolean isVoid(Tree type) {
            return type instanceof PrimitiveTypeTree plain && plain.getPrimitiveTypeKind() == TypeKind.VOID;
        }

        private static boolean isNumber(Tree type) {
            return type instanceof PrimitiveTypeTree plain
                    && plain.getPrimitiveTypeKind() != TypeKind.FLOAT
                    && plain.getPrimitiveTypeKind() != TypeKind.DOUBLE
                    && plain.getPrimitiveTypeKind() != TypeKind.VOID;
        }

        private static boolean isArray(Tree type) {
            return type instanceof ArrayTypeTree array && isNumber(array.getType());
        }

        @Override
        public Void visitVariable(VariableTree variable, Void nothing) {
            Tree type = variable.getType();
            if (!isNumber(type) && !isArray(type)) {
                fault(2, variable, "is neither a number nor a row of numbers");
            }
            return super.visitVariable(variable, nothing);
        }

        @Override
        public Void visitNewArray(NewArrayTree made, Void nothing) {
            Tree parent = getCurrentPath().getParentPath().getLeaf();
            if (!method.isEmpty() || !fields.containsValue(parent)) {
                fault(4, made, "is made outside of a field's initialiser");
            }
            List<? extends ExpressionTree> lengths = made.getDimensions();
            if (lengths.size() != 1 || !isLength(lengths.get(0)) || made.getInitializers() != null) {
                fault(4, made, "has no length that is a literal or a constant");
            }
            return super.visitNewArray(made, nothing);
        }

        private boolean isLength(ExpressionTree length) {
            return length instanceof LiteralTree
                    || length instanceof IdentifierTree name && isConstant(fields.get(name.getName().toString()));
        }

        private static boolean isConstant(VariableTree field) {
            return field != null && field.getModifiers().getFlags().contains(Modifier.STATIC)
                    && field.getModifiers().getFlags().contains(Modifier.FINAL);
        }

        @Override
        public Void visitAssignment(AssignmentTree assigned, Void nothing) {
            if (assigned.getVariable() instanceof IdentifierTree name) {
                VariableTree field = fields.get(name.getName().toString());
                if (field != null && isArray(field.getType())) {
                    fault(4, assigned, "gives an array field another array");
                }
            }
            return super.visitAssignment(assigned, nothing);
        }

        @Override
        public Void visitBlock(BlockTree block, Void nothing) {
            if (block.isStatic()) {
                fault(5, block, "is a static initialiser");
            }
            return super.visitBlock(block, nothing);
        }

        @Override
        public Void visitTypeCast(TypeCastTree cast, Void nothing) {
            if (!isNumber(cast.getType())) {
                fault(6, cast, "is a cast of a reference");
            }
            return super.visitTypeCast(cast, nothing);
        }

        @Override
        public Void visitMemberSelect(MemberSelectTree select, Void nothing) {
            if (!select.getIdentifier().contentEquals("length")) {
                fault(3, select, "reaches into another class or object");
            }
            return super.visitMemberSelect(select, nothing);
        }

        @Override
        public Void visitMethodInvocation(MethodInvocationTree call, Void nothing) {
            String name = call.getMethodSelect().toString();
            if (calls.containsKey(name)) {
                calls.get(method).add(name);
            } else if (!isImplied(call)) {
                fault(3, call, "calls what is not a method of the class");
            }
            for (TreePath path = getCurrentPath().getParentPath(); path != null; path = path.getParentPath()) {
                if (path.getLeaf() instanceof MethodInvocationTree) {
                    fault(10, call, "stands inside the arguments of another call");
                }
            }
            return super.visitMethodInvocation(call, nothing);
        }

        /** The compiler puts the call of Object's constructor into each constructor by itself. */
        private boolean isImplied(MethodInvocationTree call) {
            return method.equals("<init>") && call.getMethodSelect().toString().equals("super")
                    && call.getArguments().isEmpty();
        }

        @Override
        public Void visitForLoop(ForLoopTree loop, Void nothing) {
            boolean counts = loop.getInitializer().size() == 1 && loop.getUpdate().size() == 1
                    && loop.getInitializer().get(0) instanceof VariableTree
                    && loop.getCondition() != null;
            if (!counts) {
                fault(8, loop, "has no counter against a bound in its head");
                return super.visitForLoop(loop, nothing);
            }
            String counter = ((VariableTree) loop.getInitializer().get(0)).getName().toString();
            if (!loop.getUpdate().get(0).getExpression().toString().equals(counter + "++")
                    || !loop.getCondition().toString().startsWith(counter + " < ")) {
                fault(8, loop, "does not count up to a bound");
            }
            checkCounterIsLeft(loop, counter);
            return super.visitForLoop(loop, nothing);
        }

        private void checkCounterIsLeft(ForLoopTree loop, String counter) {
            new TreePathScanner<Void, Void>() {
                @Override
                public Void visitAssignment(AssignmentTree assigned, Void nothing) {
                    if (assigned.getVariable().toString().equals(counter)) {
                        fault(8, assigned, "sets the counter inside the loop");
                    }
                    return super.visitAssignment(assigned, nothing);
                }

                @Override
                public Void visitCompoundAssignment(CompoundAssignmentTree changed, Void nothing) {
                    if (changed.getVariable().toString().equals(counter)) {
                        fault(8, changed, "changes the counter inside the loop");
                    }
                    return super.visitCompoundAssignment(changed, nothing);
                }

                @Override
                public Void visitUnary(UnaryTree counted, Void nothing) {
                    boolean changes = EnumSet.of(Tree.Kind.POSTFIX_INCREMENT, Tree.Kind.POSTFIX_DECREMENT,
                            Tree.Kind.PREFIX_INCREMENT, Tree.Kind.PREFIX_DECREMENT).contains(counted.getKind());
                    if (changes && counted.getExpression().toString().equals(counter)) {
                        fault(8, counted, "changes the counter inside the loop");
                    }
                    return super.visitUnary(counted, nothing);
                }
            }.scan(new TreePath(getCurrentPath(), loop.getStatement()), null);
        }

        void checkCalls() {
            for (String name : calls.keySet()) {
                int depth = depth(name, new HashSet<>());
                if (depth > MOST_DEPTH) {
                    fault(10, program, name + " goes " + depth + " calls deep, or comes back to itself");
                }
            }
        }

        /** How many methods stand one above the other, this one counted; too many if one comes back to itself. */
        private int depth(String name, Set<String> above) {
            if (!above.add(name)) {
                return MOST_DEPTH + 1;
            }
            int deepest = 0;
            for (String called : calls.get(name)) {
                deepest = Math.max(deepest, depth(called, above));
            }
            above.remove(name);
            return deepest + 1;
        }

        void checkFields() {
            long held = fields.values().stream().filter(field -> !isConstant(field)).count();
            if (held > MOST_FIELDS) {
                fault(10, program, "has " + held + " fields beside its constants");
            }
            for (VariableTree field : fields.values()) {
                boolean ofTheClass = field.getModifiers().getFlags().contains(Modifier.STATIC);
                String type = field.getType().toString();
                boolean plain = type.equals("int") || type.equals("long");
                if (ofTheClass && !(isConstant(field) && plain && isPlainNumber(field.getInitializer()))) {
                    fault(5, field, "is static, but no constant of int or long");
                }
            }
        }

        private static boolean isPlainNumber(ExpressionTree value) {
            return value instanceof LiteralTree
                    || value instanceof UnaryTree minus && minus.getExpression() instanceof LiteralTree;
        }
    }
}
