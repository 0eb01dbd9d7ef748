import com.sun.source.tree.*;
import com.sun.source.util.JavacTask;
import com.sun.source.util.SourcePositions;
import com.sun.source.util.TreeScanner;
import com.sun.source.util.Trees;
import java.nio.file.Path;
import java.util.ArrayList;
import java.util.EnumSet;
import java.util.HashMap;
import java.util.HashSet;
import java.util.List;
import java.util.Map;
import java.util.Set;
import java.util.TreeSet;
import javax.lang.model.element.Modifier;
import javax.tools.JavaCompiler;
import javax.tools.StandardJavaFileManager;
import javax.tools.ToolProvider;

/**
 * The source against LANGUAGE.md, rule by rule, read as the compiler's own tree. Where a rule leaves
 * more than the class needs, the test allows only what the class needs: all loops are counted for
 * loops, no array has a second name, nothing divides.
 */
public final class LanguageTest {
    private static final Path SOURCE = Path.of("src/main/java/TruthSpectrum.java");
    private static final Set<String> TYPES = Set.of("int", "long", "short", "byte", "char", "boolean");
    private static final Set<Tree.Kind> FORBIDDEN = EnumSet.of(
            Tree.Kind.THROW, Tree.Kind.TRY, Tree.Kind.SYNCHRONIZED, Tree.Kind.ASSERT, Tree.Kind.INSTANCE_OF,
            Tree.Kind.LAMBDA_EXPRESSION, Tree.Kind.MEMBER_REFERENCE, Tree.Kind.NEW_CLASS, Tree.Kind.ANNOTATION,
            Tree.Kind.NULL_LITERAL, Tree.Kind.STRING_LITERAL, Tree.Kind.FLOAT_LITERAL, Tree.Kind.DOUBLE_LITERAL,
            Tree.Kind.WHILE_LOOP, Tree.Kind.DO_WHILE_LOOP, Tree.Kind.ENHANCED_FOR_LOOP, Tree.Kind.MEMBER_SELECT,
            Tree.Kind.DIVIDE, Tree.Kind.REMAINDER, Tree.Kind.DIVIDE_ASSIGNMENT, Tree.Kind.REMAINDER_ASSIGNMENT);

    private static final Set<Tree.Kind> STEPS = EnumSet.of(Tree.Kind.PREFIX_INCREMENT, Tree.Kind.PREFIX_DECREMENT,
            Tree.Kind.POSTFIX_INCREMENT, Tree.Kind.POSTFIX_DECREMENT);

    private static CompilationUnitTree unit;
    private static SourcePositions positions;
    private static ClassTree type;
    private static final Map<String, MethodTree> METHODS = new HashMap<>();
    private static final Map<String, VariableTree> FIELDS = new HashMap<>();
    private static final Map<String, Set<String>> CALLS = new HashMap<>();

    public static void main(String[] args) throws Exception {
        unit = parsed();
        Check.test("rule 1: one class, public and final, without a package line", LanguageTest::oneClass);
        if (type == null) {
            Check.end();
            return;
        }
        Check.test("rule 1: nothing but fields, methods and one constructor", LanguageTest::members);
        Check.test("rule 1: every method has a name of its own", LanguageTest::names);
        Check.test("rule 2: only number types, boolean and one-dimensional arrays of these", LanguageTest::types);
        Check.test("rule 3: nothing imported, no call but of the class's own methods", LanguageTest::noLibrary);
        Check.test("rule 4: arrays are made in a field's initialiser, with a constant length", LanguageTest::arraysMade);
        Check.test("rule 4: arrays are never answered, named again, compared or assigned", LanguageTest::arraysUsed);
        Check.test("rule 5: static fields are constants of int or long", LanguageTest::staticFields);
        Check.test("rules 2 to 8: no form of the language that is ruled out or not needed", LanguageTest::forms);
        Check.test("rule 7: an index is looked at before it is used", LanguageTest::indices);
        Check.test("rule 8: every loop counts up to a constant", LanguageTest::loops);
        Check.test("rules 8 and 10: no recursion, calls at most six deep", LanguageTest::depth);
        Check.test("rule 10: no call inside the arguments of another", LanguageTest::nestedCalls);
        Check.test("rule 10: few parameters, short methods, few fields", LanguageTest::sizes);
        Check.end();
    }

    private static CompilationUnitTree parsed() throws Exception {
        JavaCompiler compiler = ToolProvider.getSystemJavaCompiler();
        StandardJavaFileManager files = compiler.getStandardFileManager(null, null, null);
        JavacTask task = (JavacTask) compiler.getTask(null, files, null, null, null, files.getJavaFileObjects(SOURCE));
        positions = Trees.instance(task).getSourcePositions();
        return task.parse().iterator().next();
    }

    private static void no(String what, boolean found) {
        Check.due(what, found, false);
    }

    private static void yes(String what, boolean found) {
        Check.due(what, found, true);
    }

    /** Every tree of the wanted class, anywhere inside. */
    private static <T extends Tree> List<T> all(Tree inside, Class<T> wanted) {
        List<T> found = new ArrayList<>();
        new TreeScanner<Void, Void>() {
            @Override
            public Void scan(Tree tree, Void nothing) {
                if (wanted.isInstance(tree)) {
                    found.add(wanted.cast(tree));
                }
                return super.scan(tree, nothing);
            }
        }.scan(inside, null);
        return found;
    }

    private static void oneClass() {
        Check.due("types in the file", unit.getTypeDecls().size(), 1);
        no("has a package line", unit.getPackage() != null);
        Tree only = unit.getTypeDecls().get(0);
        yes("is a class", only.getKind() == Tree.Kind.CLASS);
        Check.due("classes, nested ones too", all(unit, ClassTree.class).size(), 1);
        if (only.getKind() == Tree.Kind.CLASS) {
            type = (ClassTree) only;
            yes("has the document's name", type.getSimpleName().contentEquals("TruthSpectrum"));
            yes("public and final", type.getModifiers().getFlags().equals(EnumSet.of(Modifier.PUBLIC, Modifier.FINAL)));
            no("has a superclass or an interface", type.getExtendsClause() != null || !type.getImplementsClause().isEmpty());
        }
    }

    private static void members() {
        int constructors = 0;
        for (Tree member : type.getMembers()) {
            yes(member.getKind() + " is a field or a method", member instanceof VariableTree || member instanceof MethodTree);
            if (member instanceof VariableTree field) {
                FIELDS.put(field.getName().toString(), field);
                visible(field.getName().toString(), field.getModifiers());
            } else if (member instanceof MethodTree method) {
                METHODS.put(method.getName().toString(), method);
                visible(method.getName().toString(), method.getModifiers());
                constructors += isConstructor(method) ? 1 : 0;
            }
        }
        Check.due("constructors", constructors, 1);
    }

    private static boolean isConstructor(MethodTree method) {
        return method.getName().contentEquals("<init>");
    }

    private static void visible(String name, ModifiersTree modifiers) {
        Set<Modifier> flags = modifiers.getFlags();
        yes(name + " is public or private", flags.contains(Modifier.PUBLIC) || flags.contains(Modifier.PRIVATE));
        yes(name + " is no more than static and final beside that",
                EnumSet.of(Modifier.PUBLIC, Modifier.PRIVATE, Modifier.STATIC, Modifier.FINAL).containsAll(flags));
    }

    private static void names() {
        Check.due("names of methods, each once", METHODS.size(), all(type, MethodTree.class).size());
    }

    private static boolean isArray(Tree declared) {
        return declared instanceof ArrayTypeTree;
    }

    private static boolean isAllowed(Tree declared) {
        Tree plain = isArray(declared) ? ((ArrayTypeTree) declared).getType() : declared;
        return TYPES.contains(plain.toString());
    }

    private static void types() {
        for (VariableTree variable : all(type, VariableTree.class)) {
            yes("the type of " + variable.getName() + " is allowed", isAllowed(variable.getType()));
        }
        for (MethodTree method : METHODS.values()) {
            Tree answer = method.getReturnType();
            boolean none = isConstructor(method) || answer.toString().equals("void");
            yes("what " + method.getName() + " answers is allowed", none || isAllowed(answer) && !isArray(answer));
            Check.due("type parameters of " + method.getName(), method.getTypeParameters().size(), 0);
            Check.due("throws of " + method.getName(), method.getThrows().size(), 0);
        }
        for (TypeCastTree cast : all(type, TypeCastTree.class)) {
            yes(cast + " is to a number type", TYPES.contains(cast.getType().toString()));
        }
    }

    private static void noLibrary() {
        Check.due("imports", unit.getImports().size(), 0);
        for (MethodInvocationTree call : all(type, MethodInvocationTree.class)) {
            String name = call.getMethodSelect().toString();
            yes(name + " is a method of the class", METHODS.containsKey(name));
        }
    }

    private static boolean isConstant(String name) {
        VariableTree field = FIELDS.get(name);
        return field != null && field.getModifiers().getFlags().containsAll(Set.of(Modifier.STATIC, Modifier.FINAL));
    }

    private static void arraysMade() {
        int made = 0;
        for (VariableTree field : FIELDS.values()) {
            if (isArray(field.getType())) {
                made++;
                yes(field.getName() + " is made at once", field.getInitializer() instanceof NewArrayTree);
                NewArrayTree array = (NewArrayTree) field.getInitializer();
                Check.due("dimensions of " + field.getName(), array.getDimensions().size(), 1);
                Tree length = array.getDimensions().get(0);
                yes("the length of " + field.getName() + " is a literal or a constant",
                        length.getKind() == Tree.Kind.INT_LITERAL || isConstant(length.toString()));
            }
        }
        Check.due("arrays made anywhere", all(type, NewArrayTree.class).size(), made);
    }

    /** A field that is an array is named only to look at one of its places. */
    private static void arraysUsed() {
        Set<Tree> looked = new HashSet<>();
        for (ArrayAccessTree place : all(type, ArrayAccessTree.class)) {
            looked.add(place.getExpression());
        }
        int named = 0;
        for (IdentifierTree name : all(type, IdentifierTree.class)) {
            VariableTree field = FIELDS.get(name.toString());
            if (field != null && isArray(field.getType())) {
                named++;
                yes(name + " is used for one of its places", looked.contains(name));
            }
        }
        yes("arrays are used", named > 0);
        for (MethodTree method : METHODS.values()) {
            for (VariableTree local : all(method, VariableTree.class)) {
                no(local.getName() + " in " + method.getName() + " names an array", isArray(local.getType()));
            }
        }
    }

    private static void staticFields() {
        int constants = 0;
        for (VariableTree field : FIELDS.values()) {
            if (field.getModifiers().getFlags().contains(Modifier.STATIC)) {
                constants++;
                String declared = field.getType().toString();
                yes(field.getName() + " is final", isConstant(field.getName().toString()));
                yes(field.getName() + " is an int or a long", declared.equals("int") || declared.equals("long"));
                Tree is = field.getInitializer();
                boolean negative = is.getKind() == Tree.Kind.UNARY_MINUS;
                Tree.Kind kind = negative ? ((UnaryTree) is).getExpression().getKind() : is.getKind();
                yes(field.getName() + " is a number written out",
                        kind == Tree.Kind.INT_LITERAL || kind == Tree.Kind.LONG_LITERAL);
            }
        }
        yes("there are constants", constants > 0);
    }

    private static void forms() {
        int trees = 0;
        for (Tree tree : all(type, Tree.class)) {
            trees++;
            no("line " + lineOf(tree) + " uses " + tree.getKind() + ": " + tree, FORBIDDEN.contains(tree.getKind()));
        }
        yes("the source was read", trees > 500);
    }

    /** A method that looks into an array first asks about the index, and does not change it then. */
    private static void indices() {
        int places = 0;
        for (MethodTree method : METHODS.values()) {
            for (ArrayAccessTree place : all(method, ArrayAccessTree.class)) {
                places++;
                String index = place.getIndex().toString();
                Tree first = method.getBody().getStatements().get(0);
                yes(method.getName() + " asks first", first instanceof IfTree);
                IfTree question = (IfTree) first;
                List<String> ways = alternatives(question.getCondition());
                yes(method.getName() + " asks whether " + index + " is a table", ways.contains("!isTable(" + index + ")"));
                yes(method.getName() + " ends if not", ends(question.getThenStatement()));
                no(method.getName() + " changes " + index, assigned(method.getBody()).contains(index));
            }
        }
        yes("arrays are looked into", places > 0);
    }

    /** What stands between the ors of a condition, each of which is enough for it. */
    private static List<String> alternatives(Tree condition) {
        Tree inner = condition instanceof ParenthesizedTree p ? p.getExpression() : condition;
        List<String> found = new ArrayList<>();
        if (inner.getKind() == Tree.Kind.CONDITIONAL_OR) {
            found.addAll(alternatives(((BinaryTree) inner).getLeftOperand()));
            found.addAll(alternatives(((BinaryTree) inner).getRightOperand()));
        } else {
            found.add(inner.toString());
        }
        return found;
    }

    private static boolean ends(Tree then) {
        List<? extends StatementTree> lines = ((BlockTree) then).getStatements();
        return lines.size() == 1 && lines.get(0) instanceof ReturnTree;
    }

    /** The names that get a new value anywhere inside. */
    private static Set<String> assigned(Tree inside) {
        Set<String> names = new TreeSet<>();
        for (AssignmentTree a : all(inside, AssignmentTree.class)) {
            names.add(a.getVariable().toString());
        }
        for (CompoundAssignmentTree a : all(inside, CompoundAssignmentTree.class)) {
            names.add(a.getVariable().toString());
        }
        for (UnaryTree u : all(inside, UnaryTree.class)) {
            if (STEPS.contains(u.getKind())) {
                names.add(u.getExpression().toString());
            }
        }
        return names;
    }

    private static void loops() {
        int loops = 0;
        for (ForLoopTree loop : all(type, ForLoopTree.class)) {
            loops++;
            String at = "the loop at line " + lineOf(loop);
            Check.due(at + ": counters", loop.getInitializer().size(), 1);
            VariableTree counter = (VariableTree) loop.getInitializer().get(0);
            String name = counter.getName().toString();
            yes(at + " has a bound", loop.getCondition().getKind() == Tree.Kind.LESS_THAN);
            BinaryTree bound = (BinaryTree) loop.getCondition();
            yes(at + " looks at its counter", bound.getLeftOperand().toString().equals(name));
            yes(at + " ends at a constant", isConstant(bound.getRightOperand().toString()));
            Check.due(at + ": steps", loop.getUpdate().size(), 1);
            yes(at + " counts up by one", loop.getUpdate().get(0).toString().equals(name + "++;"));
            no(at + " changes its counter inside", assigned(loop.getStatement()).contains(name));
        }
        yes("there are loops", loops > 0);
    }

    private static long lineOf(Tree tree) {
        return unit.getLineMap().getLineNumber(positions.getStartPosition(unit, tree));
    }

    private static long lastLineOf(Tree tree) {
        return unit.getLineMap().getLineNumber(positions.getEndPosition(unit, tree));
    }

    private static void depth() {
        for (MethodTree method : METHODS.values()) {
            Set<String> called = new TreeSet<>();
            for (MethodInvocationTree call : all(method, MethodInvocationTree.class)) {
                called.add(call.getMethodSelect().toString());
            }
            CALLS.put(method.getName().toString(), called);
        }
        for (String name : METHODS.keySet()) {
            int deep = depthOf(name, 1);
            yes(name + " calls at most six deep, and " + deep + " is that", deep <= 6);
        }
    }

    /** Recursion would go down without end, so the search ends where it is too deep already. */
    private static int depthOf(String name, int above) {
        int deepest = above;
        for (String called : CALLS.getOrDefault(name, Set.of())) {
            if (deepest <= 7) {
                deepest = Math.max(deepest, depthOf(called, above + 1));
            }
        }
        return deepest;
    }

    private static void nestedCalls() {
        int calls = 0;
        for (MethodInvocationTree call : all(type, MethodInvocationTree.class)) {
            calls++;
            for (Tree argument : call.getArguments()) {
                Check.due("calls inside the arguments of " + call, all(argument, MethodInvocationTree.class).size(), 0);
            }
        }
        yes("there are calls", calls > 0);
    }

    private static void sizes() {
        for (MethodTree method : METHODS.values()) {
            long lines = lastLineOf(method) - lineOf(method) + 1;
            yes(method.getName() + " takes at most seven parameters", method.getParameters().size() <= 7);
            yes(method.getName() + " has at most sixty lines", lines >= 1 && lines <= 60);
        }
        int changing = 0;
        for (String name : FIELDS.keySet()) {
            changing += isConstant(name) ? 0 : 1;
        }
        yes("at most forty fields beside the constants", changing <= 40);
    }
}
