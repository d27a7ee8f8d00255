import com.sun.source.tree.AssignmentTree;
import com.sun.source.tree.BinaryTree;
import com.sun.source.tree.BlockTree;
import com.sun.source.tree.ClassTree;
import com.sun.source.tree.CompilationUnitTree;
import com.sun.source.tree.CompoundAssignmentTree;
import com.sun.source.tree.DoWhileLoopTree;
import com.sun.source.tree.EnhancedForLoopTree;
import com.sun.source.tree.ExpressionTree;
import com.sun.source.tree.ForLoopTree;
import com.sun.source.tree.IdentifierTree;
import com.sun.source.tree.LiteralTree;
import com.sun.source.tree.MemberSelectTree;
import com.sun.source.tree.MethodInvocationTree;
import com.sun.source.tree.MethodTree;
import com.sun.source.tree.NewArrayTree;
import com.sun.source.tree.NewClassTree;
import com.sun.source.tree.Tree;
import com.sun.source.tree.TypeCastTree;
import com.sun.source.tree.UnaryTree;
import com.sun.source.tree.VariableTree;
import com.sun.source.tree.WhileLoopTree;
import com.sun.source.util.JavacTask;
import com.sun.source.util.SourcePositions;
import com.sun.source.util.TreeScanner;
import com.sun.source.util.Trees;
import java.io.File;
import java.io.IOException;
import java.util.ArrayList;
import java.util.List;
import java.util.Map;
import java.util.Set;
import java.util.TreeMap;
import java.util.TreeSet;
import javax.lang.model.element.Modifier;
import javax.tools.JavaCompiler;
import javax.tools.StandardJavaFileManager;
import javax.tools.ToolProvider;

/**
 * LANGUAGE.md's rules, held against the source. Rule 7 is CallsBoundaryTest's; rule 9 forbids nothing;
 * rule 11 follows from rule 3, as only the library could give a clock, a file or the like.
 */
public final class LanguageTest {
    private static final String SOURCE = "src/main/java/MeanCycles.java";
    private static final Set<String> NUMBERS = Set.of("int", "long", "short", "byte", "char", "boolean");
    private static final Set<Tree.Kind> LITERALS = Set.of(Tree.Kind.INT_LITERAL, Tree.Kind.LONG_LITERAL,
            Tree.Kind.CHAR_LITERAL, Tree.Kind.BOOLEAN_LITERAL);
    private static final Set<Tree.Kind> RULED_OUT = Set.of(Tree.Kind.THROW, Tree.Kind.TRY, Tree.Kind.CATCH,
            Tree.Kind.SYNCHRONIZED, Tree.Kind.ASSERT, Tree.Kind.INSTANCE_OF, Tree.Kind.LAMBDA_EXPRESSION,
            Tree.Kind.MEMBER_REFERENCE);
    private static final Set<Tree.Kind> COMPARISONS = Set.of(Tree.Kind.LESS_THAN, Tree.Kind.LESS_THAN_EQUAL,
            Tree.Kind.GREATER_THAN, Tree.Kind.GREATER_THAN_EQUAL);
    private static final Set<Tree.Kind> STEPS = Set.of(Tree.Kind.POSTFIX_INCREMENT, Tree.Kind.POSTFIX_DECREMENT,
            Tree.Kind.PREFIX_INCREMENT, Tree.Kind.PREFIX_DECREMENT);

    private final CompilationUnitTree unit;
    private final SourcePositions positions;
    private final ClassTree theClass;
    private final List<VariableTree> fields = new ArrayList<>();
    private final List<VariableTree> constants = new ArrayList<>();
    private final Map<String, MethodTree> methods = new TreeMap<>();

    public static void main(String[] args) throws IOException {
        JavaCompiler compiler = ToolProvider.getSystemJavaCompiler();
        try (StandardJavaFileManager files = compiler.getStandardFileManager(null, null, null)) {
            JavacTask task = (JavacTask) compiler.getTask(null, files, null, null, null,
                    files.getJavaFileObjects(new File(SOURCE)));
            CompilationUnitTree unit = task.parse().iterator().next();
            new LanguageTest(unit, Trees.instance(task).getSourcePositions()).hold();
        }
        Due.end();
    }

    private LanguageTest(CompilationUnitTree unit, SourcePositions positions) {
        this.unit = unit;
        this.positions = positions;
        this.theClass = (ClassTree) unit.getTypeDecls().get(0);
        Due.by("LANGUAGE.md, rule 1", "No private method bears the name of a public one.");
        for (Tree member : theClass.getMembers()) {
            if (member instanceof VariableTree field) {
                (has(field, Modifier.STATIC) ? constants : fields).add(field);
            } else if (member instanceof MethodTree method) {
                // Of any two methods, as the names alone tell below which one a call means.
                MethodTree other = methods.put(method.getName().toString(), method);
                Due.is("a second method named " + method.getName(), other != null, false);
            }
        }
    }

    private void hold() {
        rule1OneClass();
        rule2Types();
        rule3NoLibrary();
        rule4Arrays();
        rule5StaticFields();
        rule6RuledOut();
        rule8Recursion();
        rule8Loops();
        rule10Sizes();
    }

    private void rule1OneClass() {
        Due.by("LANGUAGE.md, rule 1", "One class: the one of the document, public and final");
        Due.is("classes in the file", all(unit, ClassTree.class).size(), 1);
        Due.is("it is named MeanCycles", theClass.getSimpleName().contentEquals("MeanCycles"), true);
        Due.is("it has a package line", unit.getPackage() != null, false);
        Due.is("it extends or implements",
                theClass.getExtendsClause() != null || !theClass.getImplementsClause().isEmpty(), false);
    }

    private void rule2Types() {
        Due.by("LANGUAGE.md, rule 2", "Types: .. and one-dimensional arrays of these.");
        for (VariableTree variable : all(unit, VariableTree.class)) {
            String type = String.valueOf(variable.getType());
            Due.is(at(variable), NUMBERS.contains(type.replaceFirst("\\[\\]$", "")), true);
        }
        for (MethodTree method : methods.values()) {
            String type = String.valueOf(method.getReturnType());
            boolean plain = method.getReturnType() == null || type.equals("void") || NUMBERS.contains(type);
            Due.is(at(method) + " answers no array and no object", plain, true);
            Due.is(at(method) + " type parameters", method.getTypeParameters().size(), 0);
        }
        for (LiteralTree literal : all(unit, LiteralTree.class)) {
            Due.is(at(literal), LITERALS.contains(literal.getKind()), true);
        }
    }

    private void rule3NoLibrary() {
        Due.by("LANGUAGE.md, rule 3", "No class of the Java library");
        Due.is("imports", unit.getImports().size(), 0);
        for (MemberSelectTree select : all(unit, MemberSelectTree.class)) {
            boolean own = isNamed(select.getExpression(), Set.of("this"));
            Due.is(at(select), own || select.getIdentifier().contentEquals("length"), true);
        }
        for (MethodInvocationTree call : all(unit, MethodInvocationTree.class)) {
            // The compiler writes super() into a constructor that does not.
            boolean own = methods.containsKey(calledBy(call)) || calledBy(call).equals("super");
            Due.is(at(call), own, true);
        }
    }

    private void rule4Arrays() {
        Due.by("LANGUAGE.md, rule 4", "Arrays are made in a field's initialiser or in the constructor, each once");
        Due.is("objects made", all(unit, NewClassTree.class).size(), 0);
        List<Tree> initialisers = new ArrayList<>();
        Set<String> arrays = new TreeSet<>();
        for (VariableTree variable : all(unit, VariableTree.class)) {
            if (String.valueOf(variable.getType()).endsWith("[]")) {
                arrays.add(variable.getName().toString());
            }
        }
        for (VariableTree field : fields) {
            initialisers.add(field.getInitializer());
        }
        for (NewArrayTree made : all(unit, NewArrayTree.class)) {
            Due.is(at(made) + " is a field's initialiser", initialisers.contains(made), true);
            boolean constant = made.getDimensions().size() == 1 && isConstant(made.getDimensions().get(0));
            Due.is(at(made) + " has one length, a constant", constant, true);
        }
        for (AssignmentTree set : all(unit, AssignmentTree.class)) {
            Due.is(at(set) + " changes an array's name", isNamed(set.getVariable(), arrays), false);
        }
        for (BinaryTree binary : all(unit, BinaryTree.class)) {
            boolean compared = isNamed(binary.getLeftOperand(), arrays) || isNamed(binary.getRightOperand(), arrays);
            Due.is(at(binary) + " compares an array", compared, false);
        }
    }

    private void rule5StaticFields() {
        Due.by("LANGUAGE.md, rule 5", "Static fields are compile-time constants of int or long alone.");
        for (VariableTree constant : constants) {
            Due.is(at(constant) + " is final", has(constant, Modifier.FINAL), true);
            Due.is(at(constant) + " is int or long",
                    Set.of("int", "long").contains(String.valueOf(constant.getType())), true);
            Due.is(at(constant) + " is constant", isConstant(constant.getInitializer()), true);
        }
        for (Tree member : theClass.getMembers()) {
            Due.is(at(member) + " is an initialiser block", member instanceof BlockTree, false);
        }
    }

    private void rule6RuledOut() {
        Due.by("LANGUAGE.md, rule 6", "No throw, try, catch, synchronized, assert, instanceof, lambda ..");
        for (Tree tree : all(unit, Tree.class)) {
            Due.is(at(tree), RULED_OUT.contains(tree.getKind()), false);
        }
        for (TypeCastTree cast : all(unit, TypeCastTree.class)) {
            Due.is(at(cast), NUMBERS.contains(cast.getType().toString()), true);
        }
        for (MethodTree method : methods.values()) {
            Due.is(at(method) + " is synchronized", has(method, Modifier.SYNCHRONIZED), false);
        }
    }

    private void rule8Recursion() {
        Due.by("LANGUAGE.md, rules 8 and 10", "No recursion .. calls go at most six deep");
        Set<String> at = new TreeSet<>(methods.keySet());
        for (int deep = 1; deep <= 6; deep++) {
            at = calledFrom(at);
        }
        // A call that comes back to itself would never leave this empty.
        Due.is("methods called from the sixth call down: " + at, at.size(), 0);
    }

    private Set<String> calledFrom(Set<String> names) {
        Set<String> called = new TreeSet<>();
        for (String name : names) {
            for (MethodInvocationTree call : all(methods.get(name), MethodInvocationTree.class)) {
                if (methods.containsKey(calledBy(call))) {
                    called.add(calledBy(call));
                }
            }
        }
        return called;
    }

    /** Stricter than the rule: of a while or do loop no test can see whether its counter is counted. */
    private void rule8Loops() {
        Due.by("LANGUAGE.md, rule 8", "Every loop has an end that can be seen from its own lines");
        Due.is("while loops", all(unit, WhileLoopTree.class).size(), 0);
        Due.is("do loops", all(unit, DoWhileLoopTree.class).size(), 0);
        Due.is("loops over arrays", all(unit, EnhancedForLoopTree.class).size(), 0);
        for (ForLoopTree loop : all(unit, ForLoopTree.class)) {
            boolean plain = loop.getInitializer().size() == 1 && loop.getUpdate().size() == 1
                    && loop.getInitializer().get(0) instanceof VariableTree && loop.getCondition() != null;
            Due.is(at(loop) + " has one counter", plain, true);
            if (plain) {
                counted(loop, ((VariableTree) loop.getInitializer().get(0)).getName().toString());
            }
        }
    }

    private void counted(ForLoopTree loop, String counter) {
        Set<String> name = Set.of(counter);
        Due.is(at(loop) + " compares", COMPARISONS.contains(loop.getCondition().getKind()), true);
        Due.is(at(loop) + " compares its counter", names(loop.getCondition()).contains(counter), true);
        boolean steps = loop.getUpdate().get(0).getExpression() instanceof UnaryTree step
                && STEPS.contains(step.getKind()) && isNamed(step.getExpression(), name);
        Due.is(at(loop) + " steps its counter", steps, true);
        for (ExpressionTree expression : all(loop.getStatement(), ExpressionTree.class)) {
            Due.is(at(expression) + " changes the counter", changes(expression, name), false);
        }
    }

    private static boolean changes(ExpressionTree expression, Set<String> name) {
        if (expression instanceof AssignmentTree set) {
            return isNamed(set.getVariable(), name);
        }
        if (expression instanceof CompoundAssignmentTree set) {
            return isNamed(set.getVariable(), name);
        }
        return expression instanceof UnaryTree step && STEPS.contains(step.getKind())
                && isNamed(step.getExpression(), name);
    }

    private void rule10Sizes() {
        Due.by("LANGUAGE.md, rule 10", "at most seven parameters, and no call stands inside the arguments ..");
        for (MethodTree method : methods.values()) {
            Due.is(at(method) + " has at most seven parameters", method.getParameters().size() <= 7, true);
            long lines = unit.getLineMap().getLineNumber(positions.getEndPosition(unit, method)) - lineOf(method) + 1;
            Due.is(at(method) + " has at most sixty lines", lines <= 60, true);
        }
        for (MethodInvocationTree call : all(unit, MethodInvocationTree.class)) {
            for (ExpressionTree argument : call.getArguments()) {
                Due.is(at(call) + " calls inside its arguments",
                        all(argument, MethodInvocationTree.class).size(), 0);
            }
        }
        Due.is("at most forty fields", fields.size() <= 40, true);
    }

    private boolean isConstant(Tree value) {
        Set<String> known = new TreeSet<>();
        for (VariableTree constant : constants) {
            known.add(constant.getName().toString());
        }
        return value != null && known.containsAll(names(value))
                && all(value, MethodInvocationTree.class).isEmpty() && all(value, NewArrayTree.class).isEmpty();
    }

    private static Set<String> names(Tree under) {
        Set<String> names = new TreeSet<>();
        for (IdentifierTree identifier : all(under, IdentifierTree.class)) {
            names.add(identifier.getName().toString());
        }
        return names;
    }

    private static boolean isNamed(Tree tree, Set<String> names) {
        if (tree instanceof MemberSelectTree select) {
            return isNamed(select.getExpression(), Set.of("this")) && names.contains(select.getIdentifier().toString());
        }
        return tree instanceof IdentifierTree identifier && names.contains(identifier.getName().toString());
    }

    private static String calledBy(MethodInvocationTree call) {
        return call.getMethodSelect().toString().replaceFirst("^this\\.", "");
    }

    private static boolean has(VariableTree field, Modifier modifier) {
        return field.getModifiers().getFlags().contains(modifier);
    }

    private static boolean has(MethodTree method, Modifier modifier) {
        return method.getModifiers().getFlags().contains(modifier);
    }

    private long lineOf(Tree tree) {
        long start = positions.getStartPosition(unit, tree);
        return start < 0 ? 0 : unit.getLineMap().getLineNumber(start);
    }

    private String at(Tree tree) {
        return "line " + lineOf(tree) + ", " + tree.getKind();
    }

    private static <T extends Tree> List<T> all(Tree under, Class<T> kind) {
        List<T> found = new ArrayList<>();
        new TreeScanner<Void, Void>() {
            @Override
            public Void scan(Tree tree, Void nothing) {
                if (kind.isInstance(tree)) {
                    found.add(kind.cast(tree));
                }
                return super.scan(tree, nothing);
            }
        }.scan(under, null);
        return found;
    }
}
