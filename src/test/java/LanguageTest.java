import com.sun.source.tree.ArrayAccessTree;
import com.sun.source.tree.ArrayTypeTree;
import com.sun.source.tree.AssignmentTree;
import com.sun.source.tree.BinaryTree;
import com.sun.source.tree.ClassTree;
import com.sun.source.tree.CompilationUnitTree;
import com.sun.source.tree.CompoundAssignmentTree;
import com.sun.source.tree.ExpressionStatementTree;
import com.sun.source.tree.ExpressionTree;
import com.sun.source.tree.ForLoopTree;
import com.sun.source.tree.IdentifierTree;
import com.sun.source.tree.LiteralTree;
import com.sun.source.tree.MethodInvocationTree;
import com.sun.source.tree.MethodTree;
import com.sun.source.tree.NewArrayTree;
import com.sun.source.tree.PrimitiveTypeTree;
import com.sun.source.tree.StatementTree;
import com.sun.source.tree.Tree;
import com.sun.source.tree.Tree.Kind;
import com.sun.source.tree.UnaryTree;
import com.sun.source.tree.VariableTree;
import com.sun.source.util.JavacTask;
import com.sun.source.util.SourcePositions;
import com.sun.source.util.TreePath;
import com.sun.source.util.TreePathScanner;
import com.sun.source.util.TreeScanner;
import com.sun.source.util.Trees;
import java.io.IOException;
import java.nio.file.Path;
import java.util.EnumSet;
import java.util.HashMap;
import java.util.HashSet;
import java.util.List;
import java.util.Map;
import java.util.Set;
import java.util.TreeSet;
import javax.lang.model.element.Modifier;
import javax.lang.model.type.TypeKind;
import javax.tools.JavaCompiler;
import javax.tools.StandardJavaFileManager;
import javax.tools.ToolProvider;

/**
 * The rules of ../shared/LANGUAGE.md that can be read off the source. Where the class needs less than a
 * rule leaves, the test asks for the less, as that is simpler to tell: a failure here may be a new kind
 * of statement that the rules allow, and is then to be added. Rule 7's indexes are left to the other tests.
 */
public final class LanguageTest {
    private static final Path SOURCE = Path.of("src/main/java/ChunkArray.java");
    private static final int DEEPEST = 6;
    private static final Set<Modifier> MODIFIERS = EnumSet.of(Modifier.PUBLIC, Modifier.PRIVATE, Modifier.STATIC);
    private static final Set<Kind> KINDS = EnumSet.of(
        Kind.METHOD, Kind.MODIFIERS, Kind.PRIMITIVE_TYPE, Kind.VARIABLE, Kind.BLOCK, Kind.RETURN, Kind.IF,
        Kind.FOR_LOOP, Kind.EXPRESSION_STATEMENT, Kind.METHOD_INVOCATION, Kind.IDENTIFIER, Kind.INT_LITERAL,
        Kind.BOOLEAN_LITERAL, Kind.ASSIGNMENT, Kind.PLUS_ASSIGNMENT, Kind.POSTFIX_INCREMENT,
        Kind.ARRAY_ACCESS, Kind.PARENTHESIZED, Kind.LOGICAL_COMPLEMENT, Kind.CONDITIONAL_AND,
        Kind.CONDITIONAL_OR, Kind.CONDITIONAL_EXPRESSION, Kind.PLUS, Kind.MINUS, Kind.MULTIPLY, Kind.DIVIDE,
        Kind.REMAINDER, Kind.LESS_THAN, Kind.LESS_THAN_EQUAL, Kind.GREATER_THAN, Kind.GREATER_THAN_EQUAL,
        Kind.EQUAL_TO, Kind.NOT_EQUAL_TO);

    private static final Due due = new Due("language");
    private static final Set<String> constants = new HashSet<>();
    private static final Set<String> arrays = new HashSet<>();
    private static final Set<String> methods = new HashSet<>();
    private static final Map<String, Set<String>> calls = new HashMap<>();

    public static void main(String[] args) throws IOException {
        JavaCompiler compiler = ToolProvider.getSystemJavaCompiler();
        try (StandardJavaFileManager files = compiler.getStandardFileManager(null, null, null)) {
            JavacTask task = (JavacTask) compiler.getTask(
                null, files, null, null, null, files.getJavaFileObjects(SOURCE));
            SourcePositions positions = Trees.instance(task).getSourcePositions();
            for (CompilationUnitTree unit : task.parse()) {
                oneClass(unit);
                for (Tree member : ((ClassTree) unit.getTypeDecls().get(0)).getMembers()) {
                    if (member instanceof MethodTree method) {
                        oneMethod(unit, positions, method);
                    }
                }
            }
        }
        for (String method : methods) {
            due.holds("rules 8 and 10: calls from " + method + " end, at most six deep", depth(method, 1) <= DEEPEST);
        }
        due.end();
    }

    private static void oneClass(CompilationUnitTree unit) {
        due.holds("rule 1: no package line", unit.getPackage() == null);
        due.holds("rule 3: nothing is imported", unit.getImports().isEmpty());
        due.is("rule 1: classes", unit.getTypeDecls().size(), 1);
        int fields = 0;
        for (Tree member : ((ClassTree) unit.getTypeDecls().get(0)).getMembers()) {
            if (member instanceof VariableTree field) {
                fields += field(field) ? 1 : 0;
            } else if (member instanceof MethodTree method) {
                String name = method.getName().toString();
                due.holds("rule 1: one method alone is named " + name, methods.add(name));
            } else {
                due.holds("rules 1 and 5: fields and methods alone, not " + member.getKind(), false);
            }
        }
        due.holds("rule 10: at most forty fields", fields <= 40);
    }

    /** Tells whether the field counts as one, which a constant does not. */
    private static boolean field(VariableTree field) {
        String name = field.getName().toString();
        Set<Modifier> modifiers = field.getModifiers().getFlags();
        if (modifiers.contains(Modifier.STATIC)) {
            due.holds("rule 5: " + name + " is final", modifiers.contains(Modifier.FINAL));
            due.holds("rule 5: " + name + " is an int", isPrimitive(field.getType(), EnumSet.of(TypeKind.INT)));
            due.holds("rule 5: " + name + " is a literal", isLiteral(field.getInitializer()));
            constants.add(name);
            return false;
        }
        due.holds("rule 1: " + name + " is private", modifiers.contains(Modifier.PRIVATE));
        due.holds("rule 4: " + name + " is final", modifiers.contains(Modifier.FINAL));
        due.holds("rule 4: " + name + " is made here", isMadeArray(field.getInitializer()));
        boolean plain = field.getType() instanceof ArrayTypeTree array && isWhole(array.getType());
        due.holds("rule 2: " + name + " is an array of whole numbers or booleans", plain);
        arrays.add(name);
        return true;
    }

    private static boolean isLiteral(ExpressionTree value) {
        ExpressionTree bare = value instanceof UnaryTree minus && minus.getKind() == Kind.UNARY_MINUS
            ? minus.getExpression() : value;
        return bare instanceof LiteralTree && bare.getKind() == Kind.INT_LITERAL;
    }

    private static boolean isMadeArray(ExpressionTree value) {
        return value instanceof NewArrayTree made && made.getInitializers() == null
            && made.getDimensions().size() == 1 && isConstant(made.getDimensions().get(0));
    }

    private static boolean isConstant(ExpressionTree value) {
        return value instanceof IdentifierTree name && constants.contains(name.getName().toString());
    }

    private static boolean isWhole(Tree type) {
        return isPrimitive(type, EnumSet.of(TypeKind.INT, TypeKind.LONG, TypeKind.SHORT, TypeKind.BYTE,
            TypeKind.CHAR, TypeKind.BOOLEAN));
    }

    private static boolean isPrimitive(Tree type, Set<TypeKind> kinds) {
        return type instanceof PrimitiveTypeTree primitive && kinds.contains(primitive.getPrimitiveTypeKind());
    }

    private static void oneMethod(CompilationUnitTree unit, SourcePositions positions, MethodTree method) {
        String name = method.getName().toString();
        long first = unit.getLineMap().getLineNumber(positions.getStartPosition(unit, method));
        long last = unit.getLineMap().getLineNumber(positions.getEndPosition(unit, method));
        Set<Modifier> modifiers = method.getModifiers().getFlags();
        due.holds("rules 1 and 6: " + name + " is not " + modifiers, MODIFIERS.containsAll(modifiers));
        due.holds("rule 10: " + name + " has at most sixty lines", last - first < 60);
        due.holds("rule 10: " + name + " takes at most seven", method.getParameters().size() <= 7);
        Tree answer = method.getReturnType();
        boolean plain = answer == null || isWhole(answer) || isPrimitive(answer, EnumSet.of(TypeKind.VOID));
        due.holds("rules 2 and 4: " + name + " answers no array or object", plain);
        calls.put(name, new TreeSet<>());
        new Reader(name).scan(new TreePath(new TreePath(unit), method), null);
    }

    /** How deep the calls from a method go; calls that come back to it go deeper than is followed here. */
    private static int depth(String method, int above) {
        int deepest = above;
        if (above <= DEEPEST) {
            for (String called : calls.get(method)) {
                deepest = Math.max(deepest, depth(called, above + 1));
            }
        }
        return deepest;
    }

    /** Goes through all that stands in one method. */
    private static final class Reader extends TreePathScanner<Void, Void> {
        private final String method;

        Reader(String method) {
            this.method = method;
        }

        private void holds(String what, boolean does) {
            due.holds(what + ", in " + method, does);
        }

        @Override
        public Void scan(Tree tree, Void none) {
            if (tree != null) {
                holds("rules 2 to 9: no " + tree.getKind() + " (" + tree + ")", KINDS.contains(tree.getKind()));
            }
            return super.scan(tree, none);
        }

        @Override
        public Void visitVariable(VariableTree variable, Void none) {
            holds("rule 2: " + variable.getName() + " is a whole number or boolean", isWhole(variable.getType()));
            return super.visitVariable(variable, none);
        }

        @Override
        public Void visitIdentifier(IdentifierTree name, Void none) {
            if (arrays.contains(name.getName().toString())) {
                Tree parent = getCurrentPath().getParentPath().getLeaf();
                boolean indexed = parent instanceof ArrayAccessTree access && access.getExpression() == name;
                holds("rule 4: " + name + " is used by index alone", indexed);
            }
            return super.visitIdentifier(name, none);
        }

        @Override
        public Void visitMethodInvocation(MethodInvocationTree call, Void none) {
            String called = call.getMethodSelect().toString();
            boolean own = methods.contains(called);
            holds("rule 3: " + called + " is the class's own", own);
            if (own) {
                calls.get(method).add(called);
            }
            for (ExpressionTree argument : call.getArguments()) {
                holds("rule 10: no call in the arguments of " + called, !hasCall(argument));
            }
            return super.visitMethodInvocation(call, none);
        }

        @Override
        public Void visitBinary(BinaryTree binary, Void none) {
            if (binary.getKind() == Kind.DIVIDE || binary.getKind() == Kind.REMAINDER) {
                holds("rule 7: the divisor of " + binary + " is a constant", isConstant(binary.getRightOperand()));
            }
            return super.visitBinary(binary, none);
        }

        @Override
        public Void visitForLoop(ForLoopTree loop, Void none) {
            holds("rule 8: the loop's end can be seen: " + loop.getCondition(), countsUp(loop));
            return super.visitForLoop(loop, none);
        }
    }

    private static boolean hasCall(Tree tree) {
        boolean[] found = {false};
        new TreeScanner<Void, Void>() {
            @Override
            public Void visitMethodInvocation(MethodInvocationTree call, Void none) {
                found[0] = true;
                return null;
            }
        }.scan(tree, null);
        return found[0];
    }

    /** for (int i = ..; i < bound; i++), or with <=, whose body sets neither i nor the bound. */
    private static boolean countsUp(ForLoopTree loop) {
        List<? extends StatementTree> start = loop.getInitializer();
        List<? extends ExpressionStatementTree> step = loop.getUpdate();
        if (start.size() != 1 || step.size() != 1 || !(start.get(0) instanceof VariableTree counter)
            || !(loop.getCondition() instanceof BinaryTree test)) {
            return false;
        }
        String name = counter.getName().toString();
        boolean below = test.getKind() == Kind.LESS_THAN || test.getKind() == Kind.LESS_THAN_EQUAL;
        return below && test.getLeftOperand().toString().equals(name)
            && test.getRightOperand() instanceof IdentifierTree bound
            && step.get(0).getExpression().toString().equals(name + "++")
            && !sets(loop.getStatement(), Set.of(name, bound.getName().toString()));
    }

    private static boolean sets(Tree tree, Set<String> names) {
        boolean[] found = {false};
        new TreeScanner<Void, Void>() {
            @Override
            public Void visitAssignment(AssignmentTree set, Void none) {
                found[0] |= names.contains(set.getVariable().toString());
                return super.visitAssignment(set, none);
            }

            @Override
            public Void visitCompoundAssignment(CompoundAssignmentTree set, Void none) {
                found[0] |= names.contains(set.getVariable().toString());
                return super.visitCompoundAssignment(set, none);
            }

            @Override
            public Void visitUnary(UnaryTree set, Void none) {
                found[0] |= names.contains(set.getExpression().toString());
                return super.visitUnary(set, none);
            }
        }.scan(tree, null);
        return found[0];
    }
}
