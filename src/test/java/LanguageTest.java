import com.sun.source.tree.ArrayAccessTree;
import com.sun.source.tree.ArrayTypeTree;
import com.sun.source.tree.AssignmentTree;
import com.sun.source.tree.BinaryTree;
import com.sun.source.tree.ClassTree;
import com.sun.source.tree.CompilationUnitTree;
import com.sun.source.tree.CompoundAssignmentTree;
import com.sun.source.tree.ExpressionStatementTree;
import com.sun.source.tree.ExpressionTree;
import com.sun.source.tree.ForLoopTree;
import com.sun.source.tree.IdentifierTree;
import com.sun.source.tree.LiteralTree;
import com.sun.source.tree.MemberSelectTree;
import com.sun.source.tree.MethodInvocationTree;
import com.sun.source.tree.MethodTree;
import com.sun.source.tree.NewArrayTree;
import com.sun.source.tree.PrimitiveTypeTree;
import com.sun.source.tree.Tree;
import com.sun.source.tree.Tree.Kind;
import com.sun.source.tree.UnaryTree;
import com.sun.source.tree.VariableTree;
import com.sun.source.util.JavacTask;
import com.sun.source.util.TreeScanner;
import com.sun.source.util.Trees;
import java.io.IOException;
import java.nio.file.Path;
import java.util.ArrayList;
import java.util.EnumSet;
import java.util.HashMap;
import java.util.HashSet;
import java.util.List;
import java.util.Map;
import java.util.Set;
import java.util.TreeSet;
import java.util.function.Predicate;
import javax.lang.model.element.Modifier;
import javax.lang.model.type.TypeKind;
import javax.tools.JavaCompiler;
import javax.tools.StandardJavaFileManager;
import javax.tools.ToolProvider;

/**
 * The rules of LANGUAGE.md that reflection can't see, looked up in the source. Where a rule leaves room, this asks
 * for the narrower form that the class has, as that is easier to see.
 */
public final class LanguageTest {
    private static final Path SOURCE = Path.of("src/main/java/BackdatedBook.java");
    private static final int MOST_LINES = 60;
    private static final int DEEPEST = 6;
    private static final int MOST_FIELDS = 40;
    private static final Set<TypeKind> TYPES = EnumSet.of(
        TypeKind.INT, TypeKind.LONG, TypeKind.SHORT, TypeKind.BYTE, TypeKind.CHAR, TypeKind.BOOLEAN, TypeKind.VOID);
    private static final Set<Kind> LITERALS = EnumSet.of(
        Kind.INT_LITERAL, Kind.LONG_LITERAL, Kind.CHAR_LITERAL, Kind.BOOLEAN_LITERAL);
    private static final Set<Kind> FORBIDDEN = EnumSet.of(
        Kind.THROW, Kind.TRY, Kind.CATCH, Kind.SYNCHRONIZED, Kind.ASSERT, Kind.INSTANCE_OF, Kind.LAMBDA_EXPRESSION,
        Kind.MEMBER_REFERENCE);
    private static final Set<Kind> LOOPS = EnumSet.of(
        Kind.FOR_LOOP, Kind.ENHANCED_FOR_LOOP, Kind.WHILE_LOOP, Kind.DO_WHILE_LOOP);

    private static CompilationUnitTree unit;
    private static Trees trees;
    private static ClassTree book;
    private static final List<MethodTree> METHODS = new ArrayList<>();
    private static final List<VariableTree> FIELDS = new ArrayList<>();

    public static void main(String[] args) throws IOException {
        read();
        Sentences.test("Rule 1: one class, without a package line", LanguageTest::oneClass);
        Sentences.test("Rule 1: members are methods and fields", LanguageTest::members);
        Sentences.test("Rule 2: numbers, truths and arrays of these", LanguageTest::types);
        Sentences.test("Rule 3: no class of the Java library", LanguageTest::noLibrary);
        Sentences.test("Rule 4: arrays are made in a field's initialiser", LanguageTest::arraysMade);
        Sentences.test("Rule 4: a method makes no object and answers no array", LanguageTest::nothingMade);
        Sentences.test("Rule 4: arrays are never compared or assigned", LanguageTest::arraysUsed);
        Sentences.test("Rule 5: static fields are constants", LanguageTest::constants);
        Sentences.test("Rule 6: no throw, try and the like", LanguageTest::noneForbidden);
        Sentences.test("Rule 8: no recursion", LanguageTest::noRecursion);
        Sentences.test("Rule 8: every loop has an end", LanguageTest::loopsEnd);
        Sentences.test("Rule 10: no call inside the arguments of another", LanguageTest::callsApart);
        Sentences.test("Rule 10: methods stay short", LanguageTest::shortMethods);
        Sentences.test("Rule 10: calls go at most six deep", LanguageTest::depth);
        Sentences.test("Rule 10: at most some forty fields", LanguageTest::fewFields);
        Sentences.end();
    }

    private static void read() throws IOException {
        JavaCompiler compiler = ToolProvider.getSystemJavaCompiler();
        try (StandardJavaFileManager files = compiler.getStandardFileManager(null, null, null)) {
            JavacTask task = (JavacTask) compiler.getTask(
                null, files, null, List.of("--release", "17"), null, files.getJavaFileObjects(SOURCE));
            unit = task.parse().iterator().next();
            trees = Trees.instance(task);
        }
        book = (ClassTree) unit.getTypeDecls().get(0);
        for (Tree member : book.getMembers()) {
            if (member instanceof MethodTree method) {
                METHODS.add(method);
            } else if (member instanceof VariableTree field) {
                FIELDS.add(field);
            }
        }
    }

    private static void wrongAt(Tree tree, String what) {
        long start = trees.getSourcePositions().getStartPosition(unit, tree);
        Sentences.wrong("line " + unit.getLineMap().getLineNumber(start) + ": " + what);
    }

    /** The tree and all the trees inside it. */
    private static List<Tree> within(Tree top) {
        List<Tree> found = new ArrayList<>();
        new TreeScanner<Void, Void>() {
            @Override
            public Void scan(Tree tree, Void nothing) {
                if (tree != null) {
                    found.add(tree);
                }
                return super.scan(tree, nothing);
            }
        }.scan(top, null);
        return found;
    }

    private static <T extends Tree> List<T> within(Tree top, Class<T> kind) {
        return within(top).stream().filter(kind::isInstance).map(kind::cast).toList();
    }

    private static void oneClass() {
        if (unit.getPackageName() != null) {
            Sentences.wrong("there is a package line");
        }
        if (!unit.getImports().isEmpty()) {
            Sentences.wrong("something is imported");
        }
        if (unit.getTypeDecls().size() != 1 || book.getKind() != Kind.CLASS) {
            Sentences.wrong("there is not one class alone");
        }
        if (book.getExtendsClause() != null || !book.getImplementsClause().isEmpty()) {
            Sentences.wrong("the class extends or implements another");
        }
    }

    private static void members() {
        for (Tree member : book.getMembers()) {
            if (!(member instanceof MethodTree) && !(member instanceof VariableTree)) {
                wrongAt(member, "a member that is neither a method nor a field");
            }
        }
        if (within(book, ClassTree.class).size() != 1) {
            Sentences.wrong("there is a class inside the class");
        }
    }

    private static boolean isArray(VariableTree variable) {
        return variable.getType() instanceof ArrayTypeTree;
    }

    private static void checkType(Tree user, Tree type) {
        Tree element = type instanceof ArrayTypeTree array ? array.getType() : type;
        if (!(element instanceof PrimitiveTypeTree number) || !TYPES.contains(number.getPrimitiveTypeKind())) {
            wrongAt(user, "the type " + type);
        }
    }

    private static void types() {
        for (VariableTree variable : within(book, VariableTree.class)) {
            checkType(variable, variable.getType());
        }
        for (MethodTree method : METHODS) {
            if (method.getReturnType() != null) {
                checkType(method, method.getReturnType());
            }
        }
        for (Tree tree : within(book)) {
            if (tree instanceof LiteralTree && !LITERALS.contains(tree.getKind())) {
                wrongAt(tree, "the literal " + tree);
            }
            if (tree.getKind() == Kind.TYPE_CAST) {
                wrongAt(tree, "a cast, of which the class needs none");
            }
        }
    }

    /** What a name without a dot can mean here: a field, a parameter, a local variable or a method of the class. */
    private static Set<String> ownNames() {
        Set<String> names = new TreeSet<>();
        for (VariableTree variable : within(book, VariableTree.class)) {
            names.add(variable.getName().toString());
        }
        names.addAll(methodNames());
        return names;
    }

    private static Set<String> methodNames() {
        Set<String> names = new TreeSet<>();
        for (MethodTree method : METHODS) {
            names.add(method.getName().toString());
        }
        return names;
    }

    private static void noLibrary() {
        Set<String> own = ownNames();
        for (Tree tree : within(book)) {
            if (tree instanceof MemberSelectTree) {
                wrongAt(tree, "a name with a dot: " + tree);
            }
            if (tree instanceof IdentifierTree name && !own.contains(name.getName().toString())) {
                wrongAt(tree, "a name from elsewhere: " + name);
            }
            if (tree instanceof MethodInvocationTree call && !methodNames().contains(nameOf(call))) {
                wrongAt(tree, "a call of a method that is not the class's own: " + call);
            }
        }
    }

    private static String nameOf(MethodInvocationTree call) {
        return call.getMethodSelect().toString();
    }

    private static void arraysMade() {
        Set<Tree> expected = new HashSet<>();
        for (VariableTree field : FIELDS) {
            if (!isArray(field)) {
                continue;
            }
            expected.add(field.getInitializer());
            if (!field.getModifiers().getFlags().contains(Modifier.FINAL)) {
                wrongAt(field, "an array field that a method could assign to");
            }
            if (field.getModifiers().getFlags().contains(Modifier.STATIC)) {
                wrongAt(field, "a static array");
            }
            if (!(field.getInitializer() instanceof NewArrayTree made) || !hasFixedLength(made)) {
                wrongAt(field, "an array that is not made with a fixed length");
            }
        }
        for (NewArrayTree made : within(book, NewArrayTree.class)) {
            if (!expected.contains(made)) {
                wrongAt(made, "an array made outside a field's initialiser");
            }
        }
    }

    private static boolean hasFixedLength(NewArrayTree made) {
        return made.getInitializers() == null && made.getDimensions().size() == 1
            && valueOf(made.getDimensions().get(0)) >= 1;
    }

    /** The value of a positive literal or of a constant with one, and -1 for anything else. */
    private static long valueOf(ExpressionTree length) {
        if (length instanceof LiteralTree literal && literal.getValue() instanceof Integer value) {
            return value;
        }
        for (VariableTree constant : FIELDS) {
            boolean named = constant.getName().contentEquals(length.toString());
            if (named && isStatic(constant) && constant.getInitializer() instanceof LiteralTree literal) {
                return ((Number) literal.getValue()).longValue();
            }
        }
        return -1;
    }

    private static void nothingMade() {
        for (Tree tree : within(book)) {
            if (tree.getKind() == Kind.NEW_CLASS) {
                wrongAt(tree, "an object is made");
            }
        }
        for (MethodTree method : METHODS) {
            if (method.getReturnType() instanceof ArrayTypeTree) {
                wrongAt(method, "an array is answered");
            }
        }
    }

    /** An array that only ever stands before an index can't be compared, assigned, answered or renamed. */
    private static void arraysUsed() {
        Set<String> arrays = new TreeSet<>();
        for (VariableTree variable : within(book, VariableTree.class)) {
            if (isArray(variable)) {
                arrays.add(variable.getName().toString());
                if (!FIELDS.contains(variable)) {
                    wrongAt(variable, "an array that is not a field, of which the class needs none");
                }
            }
        }
        Set<Tree> indexed = new HashSet<>();
        for (ArrayAccessTree access : within(book, ArrayAccessTree.class)) {
            indexed.add(access.getExpression());
        }
        for (IdentifierTree name : within(book, IdentifierTree.class)) {
            if (arrays.contains(name.getName().toString()) && !indexed.contains(name)) {
                wrongAt(name, "an array without an index");
            }
        }
    }

    private static boolean isStatic(VariableTree field) {
        return field.getModifiers().getFlags().contains(Modifier.STATIC);
    }

    private static void constants() {
        for (VariableTree field : FIELDS) {
            if (!isStatic(field)) {
                continue;
            }
            String type = field.getType().toString();
            boolean whole = type.equals("int") || type.equals("long");
            if (!whole || !field.getModifiers().getFlags().contains(Modifier.FINAL)) {
                wrongAt(field, "a static field that is not a constant of int or long");
            }
            Tree value = field.getInitializer();
            Tree bare = value instanceof UnaryTree minus ? minus.getExpression() : value;
            if (!(bare instanceof LiteralTree)) {
                wrongAt(field, "a static field that is not a literal");
            }
        }
    }

    private static void noneForbidden() {
        for (Tree tree : within(book)) {
            if (FORBIDDEN.contains(tree.getKind())) {
                wrongAt(tree, "" + tree.getKind());
            }
        }
        for (MethodTree method : METHODS) {
            if (!method.getThrows().isEmpty() || method.getModifiers().getFlags().contains(Modifier.SYNCHRONIZED)) {
                wrongAt(method, "a method that throws or is synchronized");
            }
        }
    }

    private static Map<String, Set<String>> callsOfEach() {
        Map<String, Set<String>> calls = new HashMap<>();
        for (MethodTree method : METHODS) {
            Set<String> called = calls.computeIfAbsent(method.getName().toString(), name -> new TreeSet<>());
            for (MethodInvocationTree call : within(method, MethodInvocationTree.class)) {
                called.add(nameOf(call));
            }
        }
        return calls;
    }

    /** The methods that can be reached by so many calls from the given one, or none if there are no such ways. */
    private static Set<String> reached(Map<String, Set<String>> calls, String from, int steps) {
        Set<String> here = new TreeSet<>(Set.of(from));
        for (int step = 0; step < steps; step++) {
            Set<String> next = new TreeSet<>();
            for (String name : here) {
                next.addAll(calls.getOrDefault(name, Set.of()));
            }
            here = next;
        }
        return here;
    }

    private static void noRecursion() {
        Map<String, Set<String>> calls = callsOfEach();
        for (String name : methodNames()) {
            for (int steps = 1; steps <= METHODS.size(); steps++) {
                if (reached(calls, name, steps).contains(name)) {
                    Sentences.wrong(name + " comes back to itself in " + steps + " calls");
                    break;
                }
            }
        }
    }

    private static void depth() {
        Map<String, Set<String>> calls = callsOfEach();
        for (String name : methodNames()) {
            if (!reached(calls, name, DEEPEST).isEmpty()) {
                Sentences.wrong(name + " goes deeper than " + DEEPEST);
            }
        }
    }

    private static void loopsEnd() {
        for (Tree loop : within(book)) {
            if (LOOPS.contains(loop.getKind()) && !(loop instanceof ForLoopTree counted && endIsSeen(counted))) {
                wrongAt(loop, "a loop that is not a counter against a bound");
            }
        }
    }

    /** for (int c = ..; c < bound; c++), with a bound that is a name or a literal, where the body changes neither. */
    private static boolean endIsSeen(ForLoopTree loop) {
        if (loop.getInitializer().size() != 1 || !(loop.getInitializer().get(0) instanceof VariableTree counter)) {
            return false;
        }
        if (!(loop.getCondition() instanceof BinaryTree test) || loop.getUpdate().size() != 1) {
            return false;
        }
        String name = counter.getName().toString();
        boolean below = test.getKind() == Kind.LESS_THAN || test.getKind() == Kind.LESS_THAN_EQUAL;
        Tree bound = test.getRightOperand();
        boolean plain = bound instanceof IdentifierTree || bound instanceof LiteralTree;
        Set<String> changed = changedIn(loop.getStatement());
        return below && plain && test.getLeftOperand().toString().equals(name)
            && stepsUp(loop.getUpdate().get(0), name)
            && !changed.contains(name) && !changed.contains(bound.toString())
            && within(loop.getStatement(), MethodInvocationTree.class).stream().noneMatch(changesBound(bound));
    }

    private static boolean stepsUp(ExpressionStatementTree update, String name) {
        return update.getExpression() instanceof UnaryTree step && step.getKind() == Kind.POSTFIX_INCREMENT
            && step.getExpression().toString().equals(name);
    }

    private static Set<String> changedIn(Tree top) {
        Set<String> names = new TreeSet<>();
        for (Tree tree : within(top)) {
            if (tree instanceof AssignmentTree set) {
                names.add(set.getVariable().toString());
            } else if (tree instanceof CompoundAssignmentTree set) {
                names.add(set.getVariable().toString());
            } else if (tree instanceof UnaryTree unary) {
                names.add(unary.getExpression().toString());
            }
        }
        return names;
    }

    private static Predicate<MethodInvocationTree> changesBound(Tree bound) {
        Map<String, Set<String>> calls = callsOfEach();
        return call -> {
            for (int steps = 0; steps < DEEPEST; steps++) {
                Set<String> names = reached(calls, nameOf(call), steps);
                for (MethodTree method : METHODS) {
                    boolean called = names.contains(method.getName().toString());
                    if (called && changedIn(method).contains(bound.toString())) {
                        return true;
                    }
                }
            }
            return false;
        };
    }

    private static void callsApart() {
        for (MethodInvocationTree call : within(book, MethodInvocationTree.class)) {
            for (ExpressionTree argument : call.getArguments()) {
                if (!within(argument, MethodInvocationTree.class).isEmpty()) {
                    wrongAt(call, "a call inside the arguments of another");
                }
            }
        }
    }

    private static void shortMethods() {
        for (MethodTree method : METHODS) {
            long start = trees.getSourcePositions().getStartPosition(unit, method);
            long end = trees.getSourcePositions().getEndPosition(unit, method);
            long lines = unit.getLineMap().getLineNumber(end) - unit.getLineMap().getLineNumber(start) + 1;
            if (lines > MOST_LINES) {
                wrongAt(method, method.getName() + " has " + lines + " lines");
            }
        }
    }

    private static void fewFields() {
        long fields = FIELDS.stream().filter(field -> !isStatic(field)).count();
        if (fields > MOST_FIELDS) {
            Sentences.wrong("there are " + fields + " fields beside the constants");
        }
    }
}
