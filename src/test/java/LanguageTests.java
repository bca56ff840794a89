import com.sun.source.tree.ArrayAccessTree;
import com.sun.source.tree.ArrayTypeTree;
import com.sun.source.tree.AssignmentTree;
import com.sun.source.tree.BinaryTree;
import com.sun.source.tree.BlockTree;
import com.sun.source.tree.ClassTree;
import com.sun.source.tree.CompilationUnitTree;
import com.sun.source.tree.CompoundAssignmentTree;
import com.sun.source.tree.ExpressionStatementTree;
import com.sun.source.tree.ExpressionTree;
import com.sun.source.tree.ForLoopTree;
import com.sun.source.tree.IdentifierTree;
import com.sun.source.tree.LiteralTree;
import com.sun.source.tree.MethodInvocationTree;
import com.sun.source.tree.MethodTree;
import com.sun.source.tree.NewArrayTree;
import com.sun.source.tree.PrimitiveTypeTree;
import com.sun.source.tree.StatementTree;
import com.sun.source.tree.Tree;
import com.sun.source.tree.TypeCastTree;
import com.sun.source.tree.UnaryTree;
import com.sun.source.tree.VariableTree;
import com.sun.source.util.JavacTask;
import com.sun.source.util.SourcePositions;
import com.sun.source.util.TreePath;
import com.sun.source.util.TreePathScanner;
import com.sun.source.util.TreeScanner;
import com.sun.source.util.Trees;
import java.io.File;
import java.util.EnumSet;
import java.util.HashMap;
import java.util.HashSet;
import java.util.List;
import java.util.Map;
import java.util.Set;
import java.util.TreeSet;
import javax.lang.model.element.Modifier;
import javax.lang.model.type.TypeKind;
import javax.tools.JavaCompiler;
import javax.tools.StandardJavaFileManager;
import javax.tools.ToolProvider;

// The source against ../shared/LANGUAGE.md, rule by rule, on the tree that javac reads from it.
// Where a rule is wide, what is asked here is narrower, as far as the class needs it: arrays are made in
// final fields alone and used by index alone, and a loop is a for loop that counts up to a bound.
// Rule 7 (no call throws) can't be seen in the tree: the other tests call with every kind of argument.
// Rule 9 forbids nothing, and rule 11 follows from rule 3.
public final class LanguageTests extends TreePathScanner<Void, Void> {
    private static final Set<Tree.Kind> FORBIDDEN = EnumSet.of(
        Tree.Kind.THROW, Tree.Kind.TRY, Tree.Kind.SYNCHRONIZED, Tree.Kind.ASSERT, Tree.Kind.INSTANCE_OF,
        Tree.Kind.LAMBDA_EXPRESSION, Tree.Kind.MEMBER_REFERENCE);
    private static final Set<Tree.Kind> OTHER_LOOPS = EnumSet.of(
        Tree.Kind.WHILE_LOOP, Tree.Kind.DO_WHILE_LOOP, Tree.Kind.ENHANCED_FOR_LOOP);
    private static final int MOST_PARAMETERS = 7;
    private static final int MOST_LINES = 60;
    private static final int MOST_DEEP = 6;
    private static final int MOST_FIELDS = 40;

    private final CompilationUnitTree unit;
    private final SourcePositions positions;
    private final Set<String> arrayFields = new HashSet<>();
    private final Set<String> constants = new HashSet<>();
    private final Map<String, Set<String>> callsOf = new HashMap<>();
    private int wrong = 0;

    private LanguageTests(CompilationUnitTree unit, SourcePositions positions) {
        this.unit = unit;
        this.positions = positions;
    }

    public static void main(String[] args) throws Exception {
        String source = args.length > 0 ? args[0] : "src/main/java/ScrubbedCells.java";
        JavaCompiler compiler = ToolProvider.getSystemJavaCompiler();
        try (StandardJavaFileManager files = compiler.getStandardFileManager(null, null, null)) {
            JavacTask task = (JavacTask) compiler.getTask(
                null, files, null, null, null, files.getJavaFileObjects(new File(source)));
            CompilationUnitTree unit = task.parse().iterator().next();
            LanguageTests tests = new LanguageTests(unit, Trees.instance(task).getSourcePositions());
            tests.checkAll();
            System.out.println(tests.wrong == 0 ? "every rule is kept" : tests.wrong + " places break a rule");
            if (tests.wrong != 0) {
                System.exit(1);
            }
        }
    }

    private void rule(int number, boolean kept, Tree place, String what) {
        if (!kept) {
            wrong++;
            System.out.println("rule " + number + ", line " + lineOf(positions.getStartPosition(unit, place)) + ": " + what);
        }
    }

    private long lineOf(long position) {
        return position < 0 ? 0 : unit.getLineMap().getLineNumber(position);
    }

    private void checkAll() {
        rule(1, unit.getPackage() == null, unit, "a package line");
        rule(3, unit.getImports().isEmpty(), unit, "an import");
        rule(1, unit.getTypeDecls().size() == 1, unit, "not just one class");
        for (Tree type : unit.getTypeDecls()) {
            if (type instanceof ClassTree) {
                checkMembers((ClassTree) type);
            }
        }
        scan(unit, null);
        for (String method : callsOf.keySet()) {
            checkDepth(method);
        }
    }

    private void checkMembers(ClassTree type) {
        int fields = 0;
        Set<String> shown = new TreeSet<>();
        Set<String> hidden = new TreeSet<>();
        for (Tree member : type.getMembers()) {
            rule(5, !(member instanceof BlockTree), member, "an initialiser block");
            if (member instanceof VariableTree) {
                fields += checkField((VariableTree) member);
            }
            if (member instanceof MethodTree) {
                MethodTree method = (MethodTree) member;
                boolean isHidden = method.getModifiers().getFlags().contains(Modifier.PRIVATE);
                (isHidden ? hidden : shown).add(method.getName().toString());
            }
        }
        hidden.retainAll(shown);
        rule(1, hidden.isEmpty(), type, "private methods with the name of a public one: " + hidden);
        rule(10, fields <= MOST_FIELDS, type, fields + " fields");
    }

    // Answers how many fields this is beside the constants.
    private int checkField(VariableTree field) {
        Set<Modifier> flags = field.getModifiers().getFlags();
        if (flags.contains(Modifier.STATIC)) {
            rule(5, flags.contains(Modifier.FINAL), field, "a static field that is not final");
            rule(5, isIntOrLong(field.getType()), field, "a static field that is not int or long");
            rule(5, isLiteral(field.getInitializer()), field, "a static field without a constant");
            constants.add(field.getName().toString());
            return 0;
        }
        if (field.getType() instanceof ArrayTypeTree) {
            rule(4, flags.contains(Modifier.FINAL), field, "an array field that is not final");
            arrayFields.add(field.getName().toString());
        }
        return 1;
    }

    private static boolean isIntOrLong(Tree type) {
        if (!(type instanceof PrimitiveTypeTree)) {
            return false;
        }
        TypeKind kind = ((PrimitiveTypeTree) type).getPrimitiveTypeKind();
        return kind == TypeKind.INT || kind == TypeKind.LONG;
    }

    private static boolean isLiteral(Tree value) {
        if (value instanceof UnaryTree) {
            return ((UnaryTree) value).getExpression() instanceof LiteralTree;
        }
        return value instanceof LiteralTree;
    }

    private static boolean isAllowedType(Tree type) {
        if (type instanceof ArrayTypeTree) {
            return ((ArrayTypeTree) type).getType() instanceof PrimitiveTypeTree;
        }
        return type instanceof PrimitiveTypeTree;
    }

    @Override
    public Void scan(Tree tree, Void none) {
        if (tree != null) {
            rule(6, !FORBIDDEN.contains(tree.getKind()), tree, "a " + tree.getKind());
            rule(8, !OTHER_LOOPS.contains(tree.getKind()), tree, "a loop that is not a counting for loop");
            rule(3, tree.getKind() != Tree.Kind.MEMBER_SELECT, tree, "a member of something else: " + tree);
            rule(3, tree.getKind() != Tree.Kind.NEW_CLASS, tree, "a new object");
            rule(2, tree.getKind() != Tree.Kind.STRING_LITERAL, tree, "a String");
            rule(4, tree.getKind() != Tree.Kind.NULL_LITERAL, tree, "null");
        }
        return super.scan(tree, none);
    }

    @Override
    public Void visitClass(ClassTree type, Void none) {
        boolean isNested = getCurrentPath().getParentPath().getLeaf() != unit;
        rule(1, !isNested && type.getKind() == Tree.Kind.CLASS, type, "a nested class, interface, enum or record");
        rule(1, type.getExtendsClause() == null && type.getImplementsClause().isEmpty(), type, "a class above it");
        return super.visitClass(type, none);
    }

    @Override
    public Void visitPrimitiveType(PrimitiveTypeTree type, Void none) {
        TypeKind kind = type.getPrimitiveTypeKind();
        rule(2, kind != TypeKind.FLOAT && kind != TypeKind.DOUBLE, type, "float or double");
        return super.visitPrimitiveType(type, none);
    }

    @Override
    public Void visitLiteral(LiteralTree literal, Void none) {
        Tree.Kind kind = literal.getKind();
        rule(2, kind != Tree.Kind.FLOAT_LITERAL && kind != Tree.Kind.DOUBLE_LITERAL, literal, "float or double");
        return super.visitLiteral(literal, none);
    }

    @Override
    public Void visitVariable(VariableTree variable, Void none) {
        rule(2, isAllowedType(variable.getType()), variable, "the type of " + variable.getName());
        boolean isField = getCurrentPath().getParentPath().getLeaf() instanceof ClassTree;
        rule(4, isField || !(variable.getType() instanceof ArrayTypeTree), variable, "an array outside the fields");
        return super.visitVariable(variable, none);
    }

    @Override
    public Void visitTypeCast(TypeCastTree cast, Void none) {
        rule(6, cast.getType() instanceof PrimitiveTypeTree, cast, "a cast of a reference");
        return super.visitTypeCast(cast, none);
    }

    @Override
    public Void visitNewArray(NewArrayTree array, Void none) {
        TreePath field = getCurrentPath().getParentPath();
        boolean isInField = field.getLeaf() instanceof VariableTree && field.getParentPath().getLeaf() instanceof ClassTree;
        rule(4, isInField, array, "an array made elsewhere than in a field's initialiser");
        boolean hasLength = array.getInitializers() == null && array.getDimensions().size() == 1;
        rule(4, hasLength && isConstant(array.getDimensions().get(0)), array, "an array without a constant length");
        return super.visitNewArray(array, none);
    }

    private boolean isConstant(ExpressionTree length) {
        return length instanceof LiteralTree || constants.contains(length.toString());
    }

    @Override
    public Void visitIdentifier(IdentifierTree name, Void none) {
        if (arrayFields.contains(name.getName().toString())) {
            Tree parent = getCurrentPath().getParentPath().getLeaf();
            boolean isIndexed = parent instanceof ArrayAccessTree && ((ArrayAccessTree) parent).getExpression() == name;
            rule(4, isIndexed, name, "the array " + name + " used otherwise than by index");
        }
        return super.visitIdentifier(name, none);
    }

    @Override
    public Void visitMethod(MethodTree method, Void none) {
        long first = lineOf(positions.getStartPosition(unit, method));
        long last = lineOf(positions.getEndPosition(unit, method));
        rule(10, last - first < MOST_LINES, method, method.getName() + " is long");
        rule(10, method.getParameters().size() <= MOST_PARAMETERS, method, method.getName() + " takes too much");
        Tree answer = method.getReturnType();
        rule(2, answer == null || answer instanceof PrimitiveTypeTree, method, method.getName() + " answers no number");
        rule(6, method.getThrows().isEmpty(), method, method.getName() + " throws");
        callsOf.putIfAbsent(method.getName().toString(), new TreeSet<>());
        return super.visitMethod(method, none);
    }

    @Override
    public Void visitMethodInvocation(MethodInvocationTree call, Void none) {
        String called = call.getMethodSelect().toString();
        callsOf.computeIfAbsent(callerName(), name -> new TreeSet<>()).add(called);
        for (ExpressionTree argument : call.getArguments()) {
            rule(10, !holdsCall(argument), call, "a call inside the arguments of " + called);
        }
        return super.visitMethodInvocation(call, none);
    }

    // A field's initialiser runs as a part of the constructor.
    private String callerName() {
        for (Tree around : getCurrentPath()) {
            if (around instanceof MethodTree) {
                return ((MethodTree) around).getName().toString();
            }
        }
        return "<init>";
    }

    private static boolean holdsCall(Tree argument) {
        boolean[] found = {false};
        new TreeScanner<Void, Void>() {
            @Override
            public Void visitMethodInvocation(MethodInvocationTree call, Void none) {
                found[0] = true;
                return null;
            }
        }.scan(argument, null);
        return found[0];
    }

    // A path of calls that is longer than the class has methods must come back to one of them.
    private void checkDepth(String method) {
        Set<String> reached = new TreeSet<>(List.of(method));
        int deep = 0;
        while (!reached.isEmpty() && deep <= callsOf.size()) {
            Set<String> next = new TreeSet<>();
            for (String name : reached) {
                // A constructor calls its super class's on its own; all other names must be the class's own.
                rule(3, callsOf.containsKey(name) || name.equals("super"), unit, "a call of " + name);
                next.addAll(callsOf.getOrDefault(name, Set.of()));
            }
            reached = next;
            deep++;
        }
        rule(8, reached.isEmpty(), unit, method + " comes back to itself");
        rule(10, !reached.isEmpty() || deep <= MOST_DEEP, unit, method + " calls " + deep + " deep");
    }

    @Override
    public Void visitForLoop(ForLoopTree loop, Void none) {
        String counter = counterOf(loop);
        rule(8, !counter.isEmpty(), loop, "a for loop without one counter");
        rule(8, isBelowBound(loop.getCondition(), counter), loop, "a for loop without counter < bound");
        rule(8, countsUp(loop, counter), loop, "a for loop whose counter doesn't go up");
        Set<String> changed = namesChangedIn(loop.getStatement());
        rule(8, !changed.contains(counter), loop, "a for loop that changes its counter inside");
        rule(8, !changed.contains(boundOf(loop.getCondition())), loop, "a for loop that changes its bound inside");
        return super.visitForLoop(loop, none);
    }

    private static String counterOf(ForLoopTree loop) {
        List<? extends StatementTree> start = loop.getInitializer();
        if (start.size() == 1 && start.get(0) instanceof VariableTree) {
            return ((VariableTree) start.get(0)).getName().toString();
        }
        return "";
    }

    private static boolean isBelowBound(ExpressionTree condition, String counter) {
        return condition != null && condition.getKind() == Tree.Kind.LESS_THAN
            && ((BinaryTree) condition).getLeftOperand().toString().equals(counter)
            && ((BinaryTree) condition).getRightOperand() instanceof IdentifierTree;
    }

    private static String boundOf(ExpressionTree condition) {
        return condition instanceof BinaryTree ? ((BinaryTree) condition).getRightOperand().toString() : "";
    }

    // Doubling counts up too, but only from 1: doubled, a 0 stays.
    private static boolean countsUp(ForLoopTree loop, String counter) {
        List<? extends ExpressionStatementTree> steps = loop.getUpdate();
        if (steps.size() != 1) {
            return false;
        }
        String step = steps.get(0).getExpression().toString();
        String start = loop.getInitializer().get(0).toString();
        return step.equals(counter + "++") || step.equals(counter + " <<= 1") && start.endsWith("= 1");
    }

    private static Set<String> namesChangedIn(Tree body) {
        Set<String> changed = new HashSet<>();
        new TreeScanner<Void, Void>() {
            @Override
            public Void visitAssignment(AssignmentTree change, Void none) {
                changed.add(change.getVariable().toString());
                return super.visitAssignment(change, none);
            }

            @Override
            public Void visitCompoundAssignment(CompoundAssignmentTree change, Void none) {
                changed.add(change.getVariable().toString());
                return super.visitCompoundAssignment(change, none);
            }

            @Override
            public Void visitUnary(UnaryTree change, Void none) {
                String sign = change.getKind().name();
                if (sign.endsWith("CREMENT")) {
                    changed.add(change.getExpression().toString());
                }
                return super.visitUnary(change, none);
            }
        }.scan(body, null);
        return changed;
    }
}
