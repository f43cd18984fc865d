import com.sun.source.tree.*;
import com.sun.source.util.JavacTask;
import com.sun.source.util.SourcePositions;
import com.sun.source.util.TreePath;
import com.sun.source.util.TreePathScanner;
import com.sun.source.util.Trees;
import java.io.IOException;
import java.nio.file.Path;
import java.util.HashMap;
import java.util.HashSet;
import java.util.List;
import java.util.Map;
import java.util.Set;
import javax.lang.model.element.Element;
import javax.lang.model.element.Modifier;
import javax.lang.model.element.VariableElement;
import javax.lang.model.type.ArrayType;
import javax.lang.model.type.TypeKind;
import javax.lang.model.type.TypeMirror;
import javax.tools.JavaCompiler;
import javax.tools.StandardJavaFileManager;
import javax.tools.ToolProvider;

/**
 * The class keeps to LANGUAGE.md, as far as its source tells: rules 1 to 6, 8, 10, and 11 by way of
 * 3. Of rule 7 only the divisors are looked at; that no index is wrong is left to the tests that
 * make the calls. Where a rule is hard to tell from the source, a narrower one stands for it: every
 * loop is a 'for' that counts up to a bound, arrays are made in fields' initialisers only, no
 * variable that names an array is given another one, and divisors are constants.
 */
public final class LanguageTest extends TreePathScanner<Void, Void> {
    private static final String SOURCE = "src/main/java/ParityArchive.java";
    private static final Set<TypeKind> NUMBERS = Set.of(TypeKind.INT, TypeKind.LONG, TypeKind.SHORT,
            TypeKind.BYTE, TypeKind.CHAR, TypeKind.BOOLEAN);
    private static final Set<Tree.Kind> FORBIDDEN = Set.of(Tree.Kind.THROW, Tree.Kind.TRY,
            Tree.Kind.SYNCHRONIZED, Tree.Kind.ASSERT, Tree.Kind.INSTANCE_OF,
            Tree.Kind.LAMBDA_EXPRESSION, Tree.Kind.MEMBER_REFERENCE);
    private static final Set<Tree.Kind> CHANGING = Set.of(Tree.Kind.PREFIX_INCREMENT,
            Tree.Kind.PREFIX_DECREMENT, Tree.Kind.POSTFIX_INCREMENT, Tree.Kind.POSTFIX_DECREMENT);
    private static final Set<Tree.Kind> DIVIDING = Set.of(Tree.Kind.DIVIDE, Tree.Kind.REMAINDER,
            Tree.Kind.DIVIDE_ASSIGNMENT, Tree.Kind.REMAINDER_ASSIGNMENT);
    private static final int MOST_PARAMETERS = 7;
    private static final int MOST_LINES = 60;
    private static final int MOST_DEPTH = 6;
    private static final int MOST_FIELDS = 40;

    private final Trees trees;
    private final CompilationUnitTree unit;
    private final Map<String, Set<String>> callsOf = new HashMap<>();

    private LanguageTest(Trees trees, CompilationUnitTree unit) {
        this.trees = trees;
        this.unit = unit;
    }

    public static void main(String[] args) throws IOException {
        String source = args.length == 0 ? SOURCE : args[0];
        JavaCompiler compiler = ToolProvider.getSystemJavaCompiler();
        StandardJavaFileManager files = compiler.getStandardFileManager(null, null, null);
        JavacTask task = (JavacTask) compiler.getTask(null, files, null, List.of("-proc:none"), null,
                files.getJavaFileObjects(Path.of(source)));
        CompilationUnitTree unit = task.parse().iterator().next();
        task.analyze();
        new LanguageTest(Trees.instance(task), unit).check();
        Due.end();
    }

    private void check() {
        due(1, unit, "no package line", unit.getPackageName() == null);
        due(3, unit, "no import", unit.getImports().isEmpty());
        due(1, unit, "one class", unit.getTypeDecls().size() == 1);
        scan(unit, null);
        checkCallDepth();
    }

    private void due(int rule, Tree at, String words, boolean kept) {
        Due.due("LANGUAGE.md, rule " + rule + ", line " + line(at) + ", " + words + ": kept", kept ? 1 : 0, 1);
    }

    private long line(Tree tree) {
        return unit.getLineMap().getLineNumber(trees.getSourcePositions().getStartPosition(unit, tree));
    }

    /** Every part of the source comes by here, whatever its kind. */
    @Override
    public Void scan(Tree tree, Void none) {
        if (tree != null && !isImplied(tree)) {
            due(6, tree, "no " + tree.getKind(), !FORBIDDEN.contains(tree.getKind()));
            due(4, tree, "no null", tree.getKind() != Tree.Kind.NULL_LITERAL);
            super.scan(tree, none);
        }
        return null;
    }

    /** The compiler puts a call of Object's constructor, which the source doesn't have. */
    private boolean isImplied(Tree tree) {
        return trees.getSourcePositions().getEndPosition(unit, tree) < 0
                && tree instanceof ExpressionStatementTree;
    }

    @Override
    public Void visitClass(ClassTree tree, Void none) {
        due(1, tree, "no nested class", getCurrentPath().getParentPath().getLeaf() == unit);
        due(1, tree, "a class and nothing else", tree.getKind() == Tree.Kind.CLASS);
        due(2, tree, "no other class above it", tree.getExtendsClause() == null && tree.getImplementsClause().isEmpty()
                && tree.getTypeParameters().isEmpty());
        due(1, tree, "public and final", tree.getModifiers().getFlags().equals(Set.of(Modifier.PUBLIC, Modifier.FINAL)));
        int fields = 0;
        for (Tree member : tree.getMembers()) {
            boolean field = member instanceof VariableTree;
            fields += field && !isStatic((VariableTree) member) ? 1 : 0;
            due(5, member, "no static initialiser", !(member instanceof BlockTree) || !((BlockTree) member).isStatic());
        }
        due(10, tree, "some forty fields", fields <= MOST_FIELDS);
        checkNames(tree);
        return super.visitClass(tree, none);
    }

    private static boolean isStatic(VariableTree tree) {
        return tree.getModifiers().getFlags().contains(Modifier.STATIC);
    }

    private void checkNames(ClassTree tree) {
        Set<String> names = new HashSet<>();
        for (Tree member : tree.getMembers()) {
            if (member instanceof MethodTree) {
                String name = ((MethodTree) member).getName().toString();
                due(1, member, "a name of its own: " + name, names.add(name));
            }
        }
    }

    @Override
    public Void visitVariable(VariableTree tree, Void none) {
        Element element = trees.getElement(getCurrentPath());
        due(2, tree, "a number or a row of numbers: " + tree, isNumberOrRow(element.asType()));
        if (isStatic(tree)) {
            TypeKind kind = element.asType().getKind();
            due(5, tree, "a constant: " + tree, (kind == TypeKind.INT || kind == TypeKind.LONG)
                    && ((VariableElement) element).getConstantValue() != null);
        }
        return super.visitVariable(tree, none);
    }

    private static boolean isNumberOrRow(TypeMirror type) {
        TypeMirror inner = type.getKind() == TypeKind.ARRAY ? ((ArrayType) type).getComponentType() : type;
        return NUMBERS.contains(inner.getKind());
    }

    @Override
    public Void visitMethod(MethodTree tree, Void none) {
        callsOf.putIfAbsent(tree.getName().toString(), new HashSet<>());
        due(10, tree, "at most seven parameters", tree.getParameters().size() <= MOST_PARAMETERS);
        due(10, tree, "some sixty lines", lines(tree) <= MOST_LINES);
        due(6, tree, "throws nothing", tree.getThrows().isEmpty());
        due(6, tree, "not synchronized", !tree.getModifiers().getFlags().contains(Modifier.SYNCHRONIZED));
        due(2, tree, "no type parameters", tree.getTypeParameters().isEmpty());
        if (tree.getReturnType() != null) {
            TypeKind kind = type(tree.getReturnType()).getKind();
            due(4, tree, "answers a number or nothing", kind == TypeKind.VOID || NUMBERS.contains(kind));
        }
        return super.visitMethod(tree, none);
    }

    private long lines(Tree tree) {
        SourcePositions positions = trees.getSourcePositions();
        return unit.getLineMap().getLineNumber(positions.getEndPosition(unit, tree)) - line(tree) + 1;
    }

    private TypeMirror type(Tree tree) {
        return trees.getTypeMirror(new TreePath(getCurrentPath(), tree));
    }

    private boolean isArray(Tree tree) {
        TypeMirror type = type(tree);
        return type != null && type.getKind() == TypeKind.ARRAY;
    }

    @Override
    public Void visitMethodInvocation(MethodInvocationTree tree, Void none) {
        due(3, tree, "a method of the class by its bare name: " + tree, tree.getMethodSelect() instanceof IdentifierTree);
        Element called = trees.getElement(new TreePath(getCurrentPath(), tree.getMethodSelect()));
        due(3, tree, "a method of the class: " + tree, called != null
                && called.getEnclosingElement().getSimpleName().contentEquals("ParityArchive"));
        for (TreePath above = getCurrentPath().getParentPath(); above != null; above = above.getParentPath()) {
            due(10, tree, "no call inside the arguments of another", !(above.getLeaf() instanceof MethodInvocationTree));
            if (above.getLeaf() instanceof MethodTree) {
                String caller = ((MethodTree) above.getLeaf()).getName().toString();
                callsOf.get(caller).add(tree.getMethodSelect().toString());
            }
        }
        return super.visitMethodInvocation(tree, none);
    }

    /** Each round goes one call deeper, so recursion shows as calls that never come to an end. */
    private void checkCallDepth() {
        Set<String> reached = callsOf.keySet();
        int depth = 0;
        while (!reached.isEmpty() && depth < MOST_DEPTH) {
            Set<String> deeper = new HashSet<>();
            for (String method : reached) {
                deeper.addAll(callsOf.getOrDefault(method, Set.of()));
            }
            reached = deeper;
            depth++;
        }
        due(8, unit, "no recursion, and (rule 10) calls at most six deep; beyond that: " + reached, reached.isEmpty());
    }

    @Override
    public Void visitMemberSelect(MemberSelectTree tree, Void none) {
        boolean own = tree.getExpression().toString().equals("this");
        boolean length = tree.getIdentifier().contentEquals("length") && isArray(tree.getExpression());
        due(3, tree, "nothing of the library: " + tree, own || length);
        return super.visitMemberSelect(tree, none);
    }

    @Override
    public Void visitLiteral(LiteralTree tree, Void none) {
        Tree.Kind kind = tree.getKind();
        due(2, tree, "no such literal: " + tree, kind == Tree.Kind.INT_LITERAL || kind == Tree.Kind.LONG_LITERAL
                || kind == Tree.Kind.CHAR_LITERAL || kind == Tree.Kind.BOOLEAN_LITERAL);
        return super.visitLiteral(tree, none);
    }

    @Override
    public Void visitTypeCast(TypeCastTree tree, Void none) {
        due(6, tree, "casts between numbers only", NUMBERS.contains(type(tree.getType()).getKind()));
        return super.visitTypeCast(tree, none);
    }

    @Override
    public Void visitNewClass(NewClassTree tree, Void none) {
        due(4, tree, "no object is made", false);
        return super.visitNewClass(tree, none);
    }

    @Override
    public Void visitNewArray(NewArrayTree tree, Void none) {
        TreePath holder = getCurrentPath().getParentPath();
        due(4, tree, "arrays are made in a field's initialiser", holder.getLeaf() instanceof VariableTree
                && holder.getParentPath().getLeaf() instanceof ClassTree);
        due(4, tree, "one length", tree.getDimensions().size() == 1 && tree.getInitializers() == null);
        for (ExpressionTree length : tree.getDimensions()) {
            due(4, tree, "a constant length, 1 or more", constant(length) >= 1);
        }
        return super.visitNewArray(tree, none);
    }

    private int constant(ExpressionTree tree) {
        Object value = tree instanceof LiteralTree ? ((LiteralTree) tree).getValue() : null;
        Element element = trees.getElement(new TreePath(getCurrentPath(), tree));
        if (element instanceof VariableElement) {
            value = ((VariableElement) element).getConstantValue();
        }
        return value instanceof Integer ? (Integer) value : 0;
    }

    @Override
    public Void visitAssignment(AssignmentTree tree, Void none) {
        due(4, tree, "no array is assigned: " + tree, !isArray(tree.getVariable()));
        return super.visitAssignment(tree, none);
    }

    @Override
    public Void visitBinary(BinaryTree tree, Void none) {
        due(4, tree, "no array is compared: " + tree, !isArray(tree.getLeftOperand()) && !isArray(tree.getRightOperand()));
        checkDivisor(tree, tree.getRightOperand());
        return super.visitBinary(tree, none);
    }

    @Override
    public Void visitCompoundAssignment(CompoundAssignmentTree tree, Void none) {
        checkDivisor(tree, tree.getExpression());
        return super.visitCompoundAssignment(tree, none);
    }

    private void checkDivisor(Tree tree, ExpressionTree divisor) {
        if (DIVIDING.contains(tree.getKind())) {
            due(7, tree, "divides by a constant only: " + tree, constant(divisor) != 0);
        }
    }

    @Override
    public Void visitWhileLoop(WhileLoopTree tree, Void none) {
        due(8, tree, "a loop that counts up to a bound", false);
        return super.visitWhileLoop(tree, none);
    }

    @Override
    public Void visitDoWhileLoop(DoWhileLoopTree tree, Void none) {
        due(8, tree, "a loop that counts up to a bound", false);
        return super.visitDoWhileLoop(tree, none);
    }

    @Override
    public Void visitForLoop(ForLoopTree tree, Void none) {
        due(8, tree, "a loop that counts up to a bound", countsUp(tree));
        Set<Element> changed = changedIn(tree.getStatement());
        new TreePathScanner<Void, Void>() {
            @Override
            public Void visitIdentifier(IdentifierTree name, Void none) {
                due(8, name, "the loop leaves " + name + " as it is",
                        !changed.contains(trees.getElement(getCurrentPath())));
                return null;
            }
        }.scan(new TreePath(getCurrentPath(), tree.getCondition()), null);
        return super.visitForLoop(tree, none);
    }

    private static boolean countsUp(ForLoopTree tree) {
        if (tree.getInitializer().size() != 1 || tree.getUpdate().size() != 1
                || !(tree.getInitializer().get(0) instanceof VariableTree)
                || !(tree.getCondition() instanceof BinaryTree)) {
            return false;
        }
        String counter = ((VariableTree) tree.getInitializer().get(0)).getName().toString();
        BinaryTree condition = (BinaryTree) tree.getCondition();
        return condition.getKind() == Tree.Kind.LESS_THAN
                && condition.getLeftOperand().toString().equals(counter)
                && tree.getUpdate().get(0).getExpression().toString().equals(counter + "++");
    }

    /** The variables that a loop's body gives another value in its own lines. */
    private Set<Element> changedIn(Tree body) {
        Set<Element> changed = new HashSet<>();
        new TreePathScanner<Void, Void>() {
            private void note(Tree target) {
                changed.add(trees.getElement(new TreePath(getCurrentPath(), target)));
            }

            @Override
            public Void visitAssignment(AssignmentTree tree, Void none) {
                note(tree.getVariable());
                return super.visitAssignment(tree, none);
            }

            @Override
            public Void visitCompoundAssignment(CompoundAssignmentTree tree, Void none) {
                note(tree.getVariable());
                return super.visitCompoundAssignment(tree, none);
            }

            @Override
            public Void visitUnary(UnaryTree tree, Void none) {
                if (CHANGING.contains(tree.getKind())) {
                    note(tree.getExpression());
                }
                return super.visitUnary(tree, none);
            }
        }.scan(new TreePath(getCurrentPath(), body), null);
        // An array's element has no name of its own.
        changed.remove(null);
        return changed;
    }
}
