import com.sun.source.tree.ArrayTypeTree;
import com.sun.source.tree.AssignmentTree;
import com.sun.source.tree.BinaryTree;
import com.sun.source.tree.BlockTree;
import com.sun.source.tree.ClassTree;
import com.sun.source.tree.CompilationUnitTree;
import com.sun.source.tree.CompoundAssignmentTree;
import com.sun.source.tree.ConditionalExpressionTree;
import com.sun.source.tree.DoWhileLoopTree;
import com.sun.source.tree.EnhancedForLoopTree;
import com.sun.source.tree.ForLoopTree;
import com.sun.source.tree.IdentifierTree;
import com.sun.source.tree.IfTree;
import com.sun.source.tree.LiteralTree;
import com.sun.source.tree.MemberSelectTree;
import com.sun.source.tree.MethodInvocationTree;
import com.sun.source.tree.MethodTree;
import com.sun.source.tree.NewArrayTree;
import com.sun.source.tree.NewClassTree;
import com.sun.source.tree.PrimitiveTypeTree;
import com.sun.source.tree.SwitchTree;
import com.sun.source.tree.Tree;
import com.sun.source.tree.TypeCastTree;
import com.sun.source.tree.UnaryTree;
import com.sun.source.tree.VariableTree;
import com.sun.source.tree.WhileLoopTree;
import com.sun.source.util.JavacTask;
import com.sun.source.util.SourcePositions;
import com.sun.source.util.TreeScanner;
import com.sun.source.util.Trees;
import java.io.IOException;
import java.net.URI;
import java.util.ArrayList;
import java.util.EnumSet;
import java.util.HashSet;
import java.util.List;
import java.util.Map;
import java.util.Set;
import java.util.TreeMap;
import java.util.TreeSet;
import javax.lang.model.element.Modifier;
import javax.lang.model.type.TypeKind;
import javax.tools.JavaFileObject;
import javax.tools.SimpleJavaFileObject;
import javax.tools.ToolProvider;

/**
 * Tells where a source text leaves the rules of LANGUAGE.md, as far as the text alone shows it.
 * To stay short it is narrower than the rules: methods differ in name, loops step by one in a for, no local variable names an
 * array, a constant is a literal with a name of capital letters, and no field's initialiser holds a call.
 * And it does not see everything: not an array that the constructor makes twice or hands on, nor a loop's bound that a call
 * inside the loop changes.
 */
final class Rules extends TreeScanner<Void, Void> {
    private static final int MOST_PARAMETERS = 7;
    private static final int MOST_LINES = 60;
    private static final int MOST_DEEP = 6;
    private static final int MOST_FIELDS = 40;

    private static final Set<Tree.Kind> RULED_OUT = EnumSet.of(Tree.Kind.THROW, Tree.Kind.TRY, Tree.Kind.SYNCHRONIZED,
        Tree.Kind.ASSERT, Tree.Kind.INSTANCE_OF, Tree.Kind.LAMBDA_EXPRESSION, Tree.Kind.MEMBER_REFERENCE);
    private static final Set<Tree.Kind> NO_NUMBERS = EnumSet.of(Tree.Kind.STRING_LITERAL, Tree.Kind.FLOAT_LITERAL,
        Tree.Kind.DOUBLE_LITERAL, Tree.Kind.NULL_LITERAL);
    private static final Set<Tree.Kind> UP = EnumSet.of(Tree.Kind.POSTFIX_INCREMENT, Tree.Kind.PREFIX_INCREMENT);
    private static final Set<Tree.Kind> DOWN = EnumSet.of(Tree.Kind.POSTFIX_DECREMENT, Tree.Kind.PREFIX_DECREMENT);
    private static final Set<Tree.Kind> BELOW = EnumSet.of(Tree.Kind.LESS_THAN, Tree.Kind.LESS_THAN_EQUAL);
    private static final Set<Tree.Kind> ABOVE = EnumSet.of(Tree.Kind.GREATER_THAN, Tree.Kind.GREATER_THAN_EQUAL);

    private final CompilationUnitTree unit;
    private final SourcePositions positions;
    private final Set<String> faults = new TreeSet<>();
    private final Set<String> variables = new HashSet<>(Set.of("this"));
    private final Set<String> arrayFields = new HashSet<>();
    private final Map<String, Set<String>> calls = new TreeMap<>();
    private int classes = 0;
    private int fields = 0;
    private MethodTree method = null;
    private int branchesAround = 0;
    private int argumentsAround = 0;

    private Rules(CompilationUnitTree unit, SourcePositions positions) {
        this.unit = unit;
        this.positions = positions;
    }

    /** Each fault begins with its rule's number, as in "rule 4, line 12: ...". */
    static Set<String> faultsOf(String source) throws IOException {
        JavaFileObject file = new SimpleJavaFileObject(URI.create("string:///RelationNet.java"), JavaFileObject.Kind.SOURCE) {
            @Override
            public CharSequence getCharContent(boolean ignoreEncodingErrors) {
                return source;
            }
        };
        JavacTask task = (JavacTask) ToolProvider.getSystemJavaCompiler().getTask(null, null, null, null, null, List.of(file));
        CompilationUnitTree unit = task.parse().iterator().next();
        Rules rules = new Rules(unit, Trees.instance(task).getSourcePositions());
        rules.collectNames();
        rules.scan(unit, null);
        rules.lookAtCalls();
        return rules.faults;
    }

    private void fault(int rule, Tree at, String what) {
        long line = unit.getLineMap().getLineNumber(positions.getStartPosition(unit, at));
        faults.add("rule " + rule + ", line " + line + ": " + what);
    }

    private void collectNames() {
        new TreeScanner<Void, Void>() {
            @Override
            public Void visitVariable(VariableTree variable, Void none) {
                variables.add(variable.getName().toString());
                return super.visitVariable(variable, none);
            }

            @Override
            public Void visitMethod(MethodTree method, Void none) {
                if (calls.put(method.getName().toString(), new TreeSet<>()) != null) {
                    fault(1, method, "a second method " + method.getName());
                }
                return super.visitMethod(method, none);
            }
        }.scan(unit, null);
    }

    @Override
    public Void visitCompilationUnit(CompilationUnitTree tree, Void none) {
        if (tree.getPackage() != null) {
            fault(1, tree.getPackage(), "a package line");
        }
        for (Tree imported : tree.getImports()) {
            fault(3, imported, "an import");
        }
        return super.visitCompilationUnit(tree, none);
    }

    @Override
    public Void visitClass(ClassTree tree, Void none) {
        classes++;
        if (classes > 1 || tree.getKind() != Tree.Kind.CLASS) {
            fault(1, tree, "more than one class, or none");
        }
        for (Tree member : tree.getMembers()) {
            if (member instanceof BlockTree) {
                fault(5, member, "an initialiser");
            } else if (member instanceof VariableTree) {
                lookAtField((VariableTree) member);
            }
        }
        if (fields > MOST_FIELDS) {
            fault(10, tree, fields + " fields");
        }
        return super.visitClass(tree, none);
    }

    private void lookAtField(VariableTree field) {
        Set<Modifier> modifiers = field.getModifiers().getFlags();
        if (field.getType() instanceof ArrayTypeTree) {
            arrayFields.add(field.getName().toString());
        }
        if (!modifiers.contains(Modifier.STATIC)) {
            fields++;
        } else if (!modifiers.contains(Modifier.FINAL) || !isWhole(field.getType()) || !isConstant(field.getInitializer())) {
            fault(5, field, "the static field " + field.getName() + " is no constant of int or long");
        }
    }

    private static boolean isWhole(Tree type) {
        return type instanceof PrimitiveTypeTree
            && EnumSet.of(TypeKind.INT, TypeKind.LONG).contains(((PrimitiveTypeTree) type).getPrimitiveTypeKind());
    }

    private static boolean isConstant(Tree value) {
        return value instanceof LiteralTree || value != null && value.getKind() == Tree.Kind.UNARY_MINUS;
    }

    @Override
    public Void visitMethod(MethodTree tree, Void none) {
        method = tree;
        if (tree.getParameters().size() > MOST_PARAMETERS) {
            fault(10, tree, tree.getName() + " takes more than seven parameters");
        }
        if (linesOf(tree) > MOST_LINES) {
            fault(10, tree, tree.getName() + " has " + linesOf(tree) + " lines");
        }
        if (tree.getReturnType() instanceof ArrayTypeTree) {
            fault(4, tree, tree.getName() + " answers an array");
        }
        super.visitMethod(tree, none);
        method = null;
        return null;
    }

    private long linesOf(Tree tree) {
        long first = unit.getLineMap().getLineNumber(positions.getStartPosition(unit, tree));
        long last = unit.getLineMap().getLineNumber(positions.getEndPosition(unit, tree));
        return last - first + 1;
    }

    private boolean isInConstructor() {
        return method != null && method.getReturnType() == null;
    }

    @Override
    public Void visitVariable(VariableTree variable, Void none) {
        boolean isLocal = method != null && !method.getParameters().contains(variable);
        if (isLocal && variable.getType() instanceof ArrayTypeTree) {
            fault(4, variable, "the local variable " + variable.getName() + " names an array");
        }
        return super.visitVariable(variable, none);
    }

    @Override
    public Void visitPrimitiveType(PrimitiveTypeTree type, Void none) {
        if (EnumSet.of(TypeKind.FLOAT, TypeKind.DOUBLE).contains(type.getPrimitiveTypeKind())) {
            fault(2, type, "the type " + type);
        }
        return super.visitPrimitiveType(type, none);
    }

    @Override
    public Void visitArrayType(ArrayTypeTree type, Void none) {
        if (!(type.getType() instanceof PrimitiveTypeTree)) {
            fault(2, type, "the type " + type);
        }
        return super.visitArrayType(type, none);
    }

    @Override
    public Void visitLiteral(LiteralTree literal, Void none) {
        if (NO_NUMBERS.contains(literal.getKind())) {
            fault(2, literal, "the literal " + literal);
        }
        return super.visitLiteral(literal, none);
    }

    @Override
    public Void visitIdentifier(IdentifierTree name, Void none) {
        if (!variables.contains(name.getName().toString())) {
            fault(3, name, name + " is declared nowhere in the class");
        }
        return super.visitIdentifier(name, none);
    }

    @Override
    public Void visitMemberSelect(MemberSelectTree select, Void none) {
        boolean isOwn = select.getExpression().toString().equals("this");
        if (!isOwn && !select.getIdentifier().contentEquals("length")) {
            fault(3, select, select.toString());
        }
        return super.visitMemberSelect(select, none);
    }

    @Override
    public Void visitMethodInvocation(MethodInvocationTree call, Void none) {
        String called = call.getMethodSelect().toString();
        if (!calls.containsKey(called)) {
            fault(3, call, called + " is no method of the class");
        } else if (method != null) {
            calls.get(method.getName().toString()).add(called);
        } else {
            fault(4, call, "a call in a field's initialiser");
        }
        if (argumentsAround > 0) {
            fault(10, call, called + " is called inside the arguments of another call");
        }
        argumentsAround++;
        scan(call.getArguments(), none);
        argumentsAround--;
        return null;
    }

    @Override
    public Void visitNewClass(NewClassTree made, Void none) {
        fault(4, made, "an object is made");
        return super.visitNewClass(made, none);
    }

    @Override
    public Void visitNewArray(NewArrayTree made, Void none) {
        if (method != null && (!isInConstructor() || branchesAround > 0)) {
            fault(4, made, "an array is made in a method, in a loop or behind a condition");
        }
        boolean hasOneLength = made.getDimensions().size() == 1 && made.getInitializers() == null;
        if (!hasOneLength || !isLength(made.getDimensions().get(0))) {
            fault(4, made, "the length is no literal and no constant");
        }
        return super.visitNewArray(made, none);
    }

    /** Constants are told by their capital letters; that they are constants, rule 5 sees to. */
    private static boolean isLength(Tree length) {
        return length.toString().matches("[1-9][0-9]*|[A-Z][A-Z_]*");
    }

    @Override
    public Void visitAssignment(AssignmentTree assignment, Void none) {
        String target = assignment.getVariable().toString().replaceFirst("^this\\.", "");
        if (arrayFields.contains(target) && !isInConstructor()) {
            fault(4, assignment, "the array field " + target + " is assigned to");
        }
        return super.visitAssignment(assignment, none);
    }

    @Override
    public Void visitBinary(BinaryTree binary, Void none) {
        boolean namesArray = arrayFields.contains(binary.getLeftOperand().toString())
            || arrayFields.contains(binary.getRightOperand().toString());
        if (namesArray) {
            fault(4, binary, "an array is compared: " + binary);
        }
        return super.visitBinary(binary, none);
    }

    @Override
    public Void visitTypeCast(TypeCastTree cast, Void none) {
        if (!(cast.getType() instanceof PrimitiveTypeTree)) {
            fault(6, cast, "a cast of a reference");
        }
        return super.visitTypeCast(cast, none);
    }

    @Override
    public Void scan(Tree tree, Void none) {
        if (tree != null && RULED_OUT.contains(tree.getKind())) {
            fault(6, tree, tree.getKind().toString());
        }
        return super.scan(tree, none);
    }

    @Override
    public Void visitForLoop(ForLoopTree loop, Void none) {
        if (!countsToItsBound(loop)) {
            fault(8, loop, "the loop's end can't be seen from its own lines");
        }
        branchesAround++;
        super.visitForLoop(loop, none);
        branchesAround--;
        return null;
    }

    private static boolean countsToItsBound(ForLoopTree loop) {
        boolean isPlain = loop.getInitializer().size() == 1 && loop.getInitializer().get(0) instanceof VariableTree
            && loop.getCondition() instanceof BinaryTree && loop.getUpdate().size() == 1;
        if (!isPlain) {
            return false;
        }
        String counter = ((VariableTree) loop.getInitializer().get(0)).getName().toString();
        BinaryTree condition = (BinaryTree) loop.getCondition();
        Tree.Kind step = loop.getUpdate().get(0).getExpression().getKind();
        boolean goesUp = BELOW.contains(condition.getKind()) && UP.contains(step);
        boolean goesDown = ABOVE.contains(condition.getKind()) && DOWN.contains(step);
        boolean isStepped = changedIn(loop.getUpdate().get(0)).contains(counter);
        boolean isCompared = condition.getLeftOperand().toString().equals(counter);
        Set<String> changed = changedIn(loop.getStatement());
        String bound = condition.getRightOperand().toString();
        return isCompared && isStepped && (goesUp || goesDown) && !changed.contains(counter) && !changed.contains(bound);
    }

    private static Set<String> changedIn(Tree body) {
        Set<String> changed = new HashSet<>();
        new TreeScanner<Void, Void>() {
            @Override
            public Void visitAssignment(AssignmentTree assignment, Void none) {
                changed.add(assignment.getVariable().toString());
                return super.visitAssignment(assignment, none);
            }

            @Override
            public Void visitCompoundAssignment(CompoundAssignmentTree assignment, Void none) {
                changed.add(assignment.getVariable().toString());
                return super.visitCompoundAssignment(assignment, none);
            }

            @Override
            public Void visitUnary(UnaryTree unary, Void none) {
                if (UP.contains(unary.getKind()) || DOWN.contains(unary.getKind())) {
                    changed.add(unary.getExpression().toString());
                }
                return super.visitUnary(unary, none);
            }
        }.scan(body, null);
        return changed;
    }

    @Override
    public Void visitWhileLoop(WhileLoopTree loop, Void none) {
        fault(8, loop, "a loop that is no counting for");
        return super.visitWhileLoop(loop, none);
    }

    @Override
    public Void visitDoWhileLoop(DoWhileLoopTree loop, Void none) {
        fault(8, loop, "a loop that is no counting for");
        return super.visitDoWhileLoop(loop, none);
    }

    @Override
    public Void visitEnhancedForLoop(EnhancedForLoopTree loop, Void none) {
        fault(8, loop, "a loop that is no counting for");
        return super.visitEnhancedForLoop(loop, none);
    }

    @Override
    public Void visitIf(IfTree branch, Void none) {
        branchesAround++;
        super.visitIf(branch, none);
        branchesAround--;
        return null;
    }

    @Override
    public Void visitConditionalExpression(ConditionalExpressionTree branch, Void none) {
        branchesAround++;
        super.visitConditionalExpression(branch, none);
        branchesAround--;
        return null;
    }

    @Override
    public Void visitSwitch(SwitchTree branch, Void none) {
        branchesAround++;
        super.visitSwitch(branch, none);
        branchesAround--;
        return null;
    }

    private void lookAtCalls() {
        for (String first : calls.keySet()) {
            lookAtCallsFrom(new ArrayList<>(List.of(first)));
        }
    }

    /** The chain's last method may call only methods that are not in the chain, and only while the chain is short enough. */
    private void lookAtCallsFrom(List<String> chain) {
        for (String called : calls.get(chain.get(chain.size() - 1))) {
            if (chain.contains(called)) {
                fault(8, unit, "recursion: " + chain + " calls " + called);
            } else if (chain.size() == MOST_DEEP) {
                fault(10, unit, "calls go more than six deep: " + chain + " calls " + called);
            } else {
                chain.add(called);
                lookAtCallsFrom(chain);
                chain.remove(chain.size() - 1);
            }
        }
    }
}
