import com.sun.source.tree.*;
import com.sun.source.util.JavacTask;
import com.sun.source.util.SourcePositions;
import com.sun.source.util.TreeScanner;
import com.sun.source.util.Trees;
import java.io.IOException;
import java.nio.file.Path;
import java.util.ArrayList;
import java.util.EnumSet;
import java.util.HashMap;
import java.util.HashSet;
import java.util.LinkedHashMap;
import java.util.List;
import java.util.Map;
import java.util.Set;
import javax.lang.model.element.Modifier;
import javax.lang.model.type.TypeKind;
import javax.tools.JavaCompiler;
import javax.tools.StandardJavaFileManager;
import javax.tools.ToolProvider;

/**
 * The rules of LANGUAGE.md that can be read off the source, by their numbers; FaceTest has the
 * public face of rule 1, and what rules 7 and 8 say of every call is left to the other tests.
 */
public final class LanguageTest {
    private static final Path SOURCE = Path.of("src/main/java/SegmentMachine.java");
    private static final Set<Tree.Kind> LOOPS = EnumSet.of(Tree.Kind.FOR_LOOP,
        Tree.Kind.WHILE_LOOP, Tree.Kind.DO_WHILE_LOOP, Tree.Kind.ENHANCED_FOR_LOOP);
    private static final Set<Tree.Kind> NEVER = EnumSet.of(Tree.Kind.THROW, Tree.Kind.TRY,
        Tree.Kind.CATCH, Tree.Kind.SYNCHRONIZED, Tree.Kind.ASSERT, Tree.Kind.INSTANCE_OF,
        Tree.Kind.LAMBDA_EXPRESSION, Tree.Kind.MEMBER_REFERENCE);
    private static final int TOO_DEEP = 1000;
    private static final Check CHECK = new Check();

    private static CompilationUnitTree unit;
    private static SourcePositions positions;
    private static ClassTree type;
    private static final Map<String, VariableTree> FIELDS = new LinkedHashMap<>();
    private static final List<MethodTree> METHODS = new ArrayList<>();

    public static void main(String[] args) throws IOException {
        read();
        CHECK.sentence("1: one class, public and final", LanguageTest::oneClass);
        CHECK.sentence("1: no private method has the name of a public one", LanguageTest::ownNames);
        CHECK.sentence("2: types", LanguageTest::types);
        CHECK.sentence("3: no class of the Java library", LanguageTest::ownNamesAlone);
        CHECK.sentence("4: arrays are made at the start, each once", LanguageTest::arraysMade);
        CHECK.sentence("4: no array is answered, compared or assigned", LanguageTest::arraysUsed);
        CHECK.sentence("5: static fields are constants", LanguageTest::constants);
        CHECK.sentence("6: what is never used", LanguageTest::neverUsed);
        CHECK.sentence("8: no recursion; 10: calls go at most six deep", LanguageTest::callDepth);
        CHECK.sentence("8: every loop has a counter against a bound", LanguageTest::loops);
        CHECK.sentence("10: few parameters, no call inside another's", LanguageTest::calls);
        CHECK.sentence("10: short methods, few fields", LanguageTest::sizes);
        CHECK.end();
    }

    private static void read() throws IOException {
        JavaCompiler compiler = ToolProvider.getSystemJavaCompiler();
        try (StandardJavaFileManager files = compiler.getStandardFileManager(null, null, null)) {
            JavacTask task = (JavacTask) compiler.getTask(null, files, null, null, null,
                files.getJavaFileObjects(SOURCE));
            unit = task.parse().iterator().next();
            positions = Trees.instance(task).getSourcePositions();
        }
        type = (ClassTree) unit.getTypeDecls().get(0);
        for (Tree member : type.getMembers()) {
            if (member instanceof VariableTree field) {
                FIELDS.put(field.getName().toString(), field);
            } else if (member instanceof MethodTree method) {
                METHODS.add(method);
            }
        }
    }

    /** All trees inside one, itself among them. */
    private static List<Tree> inside(Tree some) {
        List<Tree> all = new ArrayList<>();
        new TreeScanner<Void, Void>() {
            @Override
            public Void scan(Tree tree, Void nothing) {
                if (tree != null) {
                    all.add(tree);
                }
                return super.scan(tree, nothing);
            }
        }.scan(some, null);
        return all;
    }

    private static List<Tree> inside(Tree some, Set<Tree.Kind> kinds) {
        return inside(some).stream().filter(tree -> kinds.contains(tree.getKind())).toList();
    }

    private static List<Tree> inside(Tree some, Tree.Kind kind) {
        return inside(some, EnumSet.of(kind));
    }

    private static void none(String what, List<? extends Tree> found) {
        CHECK.due(what + ": " + found, found.size(), 0);
    }

    private static boolean isStatic(VariableTree field) {
        return field.getModifiers().getFlags().contains(Modifier.STATIC);
    }

    private static void oneClass() {
        CHECK.due("types", unit.getTypeDecls().size(), 1);
        CHECK.due("a package line", unit.getPackageName() != null, false);
        CHECK.due("imports", unit.getImports().size(), 0);
        CHECK.due("a class", type.getKind() == Tree.Kind.CLASS, true);
        CHECK.due("public and final", type.getModifiers().getFlags()
            .equals(EnumSet.of(Modifier.PUBLIC, Modifier.FINAL)), true);
        CHECK.due("what it extends", type.getExtendsClause() != null, false);
        CHECK.due("what it implements", type.getImplementsClause().size(), 0);
        Set<Tree.Kind> types = EnumSet.of(Tree.Kind.CLASS, Tree.Kind.INTERFACE, Tree.Kind.ENUM,
            Tree.Kind.RECORD, Tree.Kind.ANNOTATION_TYPE);
        CHECK.due("classes with nested ones", inside(type, types).size(), 1);
    }

    private static void ownNames() {
        Set<String> visible = new HashSet<>();
        for (MethodTree method : METHODS) {
            if (!isPrivate(method)) {
                visible.add(method.getName().toString());
            }
        }
        for (MethodTree method : METHODS) {
            boolean bears = isPrivate(method) && visible.contains(method.getName().toString());
            CHECK.due("a private " + method.getName(), bears, false);
        }
    }

    private static boolean isPrivate(MethodTree method) {
        return method.getModifiers().getFlags().contains(Modifier.PRIVATE);
    }

    private static boolean isNumberType(Tree some) {
        return some instanceof PrimitiveTypeTree primitive
            && primitive.getPrimitiveTypeKind() != TypeKind.FLOAT
            && primitive.getPrimitiveTypeKind() != TypeKind.DOUBLE;
    }

    private static boolean isArrayOfNumbers(Tree some) {
        return some instanceof ArrayTypeTree array && isNumberType(array.getType());
    }

    private static void types() {
        for (Tree tree : inside(type)) {
            if (tree instanceof VariableTree variable) {
                Tree its = variable.getType();
                CHECK.due("type of " + variable, isNumberType(its) || isArrayOfNumbers(its), true);
            } else if (tree instanceof TypeCastTree cast) {
                CHECK.due("cast " + cast, isNumberType(cast.getType()), true);
            }
        }
        none("texts and fractions", inside(type, EnumSet.of(Tree.Kind.STRING_LITERAL,
            Tree.Kind.FLOAT_LITERAL, Tree.Kind.DOUBLE_LITERAL)));
        none("objects", inside(type, Tree.Kind.NEW_CLASS));
    }

    private static void ownNamesAlone() {
        Set<String> own = new HashSet<>(List.of("super", "this", type.getSimpleName().toString()));
        for (Tree tree : inside(type)) {
            if (tree instanceof VariableTree variable) {
                own.add(variable.getName().toString());
            } else if (tree instanceof MethodTree method) {
                own.add(method.getName().toString());
            }
        }
        for (Tree tree : inside(type)) {
            if (tree instanceof IdentifierTree name) {
                CHECK.due("a name of its own: " + name, own.contains(name.toString()), true);
            } else if (tree instanceof MemberSelectTree select) {
                String member = select.getIdentifier().toString();
                boolean known = own.contains(member) || member.equals("length");
                CHECK.due("a member: " + select, known, true);
            }
        }
    }

    private static void arraysMade() {
        List<ExpressionTree> made = new ArrayList<>();
        for (VariableTree field : FIELDS.values()) {
            made.add(field.getInitializer());
        }
        for (MethodTree method : METHODS) {
            if (method.getReturnType() == null) {
                madeBy(method, made);
            }
        }
        int arrays = 0;
        for (ExpressionTree some : made) {
            if (some instanceof NewArrayTree array) {
                arrays++;
                CHECK.due("no list of contents: " + array, array.getInitializers() == null, true);
                CHECK.due("one length: " + array, array.getDimensions().size(), 1);
                CHECK.due("a constant: " + array, isConstant(array.getDimensions().get(0)), true);
            }
        }
        CHECK.due("arrays made elsewhere", inside(type, Tree.Kind.NEW_ARRAY).size() - arrays, 0);
    }

    // What stands straight in the constructor is neither in a loop nor behind a condition.
    private static void madeBy(MethodTree constructor, List<ExpressionTree> made) {
        for (StatementTree statement : constructor.getBody().getStatements()) {
            if (statement instanceof ExpressionStatementTree expression
                    && expression.getExpression() instanceof AssignmentTree set) {
                made.add(set.getExpression());
            }
        }
    }

    private static boolean isConstant(ExpressionTree some) {
        if (some instanceof IdentifierTree name) {
            VariableTree field = FIELDS.get(name.toString());
            return field != null && isStatic(field);
        }
        return some.getKind() == Tree.Kind.INT_LITERAL;
    }

    private static void arraysUsed() {
        none("null", inside(type, Tree.Kind.NULL_LITERAL));
        for (MethodTree method : METHODS) {
            Tree answer = method.getReturnType();
            boolean isPlain = answer == null || answer instanceof PrimitiveTypeTree;
            CHECK.due("what " + method.getName() + " answers", isPlain, true);
            Set<String> arrays = arraysIn(method);
            for (Tree tree : inside(method)) {
                if (tree instanceof AssignmentTree set) {
                    boolean assigned = answer != null && isOneOf(arrays, set.getVariable());
                    CHECK.due("no array is assigned: " + set, assigned, false);
                } else if (tree instanceof BinaryTree both) {
                    boolean compared = isOneOf(arrays, both.getLeftOperand())
                        || isOneOf(arrays, both.getRightOperand());
                    CHECK.due("no array is compared: " + both, compared, false);
                }
            }
        }
    }

    private static Set<String> arraysIn(MethodTree method) {
        List<Tree> variables = new ArrayList<>(FIELDS.values());
        variables.addAll(inside(method, Tree.Kind.VARIABLE));
        Set<String> arrays = new HashSet<>();
        for (Tree tree : variables) {
            VariableTree variable = (VariableTree) tree;
            if (isArrayOfNumbers(variable.getType())) {
                arrays.add(variable.getName().toString());
            }
        }
        return arrays;
    }

    private static boolean isOneOf(Set<String> names, ExpressionTree some) {
        return names.contains(some.toString().replace("this.", ""));
    }

    private static void constants() {
        for (VariableTree field : FIELDS.values()) {
            if (isStatic(field)) {
                CHECK.due("final: " + field,
                    field.getModifiers().getFlags().contains(Modifier.FINAL), true);
                String its = field.getType().toString();
                CHECK.due("int or long: " + field, its.equals("int") || its.equals("long"), true);
                none("calls in " + field, inside(field, Tree.Kind.METHOD_INVOCATION));
            }
        }
        long blocks = type.getMembers().stream().filter(BlockTree.class::isInstance).count();
        CHECK.due("initialisers", blocks, 0);
    }

    private static void neverUsed() {
        none("never used", inside(type, NEVER));
        for (MethodTree method : METHODS) {
            CHECK.due(method.getName() + " throws", method.getThrows().size(), 0);
        }
    }

    private static void callDepth() {
        Map<String, Integer> depths = new HashMap<>();
        for (MethodTree method : METHODS) {
            String name = method.getName().toString();
            CHECK.due(name + " goes at most six deep", depth(name, depths) <= 6, true);
        }
    }

    /** How deep the calls of a method go; one that comes back to itself goes too deep. */
    private static int depth(String name, Map<String, Integer> depths) {
        if (depths.containsKey(name)) {
            return depths.get(name);
        }
        depths.put(name, TOO_DEEP);
        int deepest = 0;
        for (MethodTree method : METHODS) {
            if (method.getName().contentEquals(name)) {
                for (Tree call : inside(method, Tree.Kind.METHOD_INVOCATION)) {
                    String called = ((MethodInvocationTree) call).getMethodSelect().toString();
                    deepest = Math.max(deepest, depth(called.replace("this.", ""), depths));
                }
            }
        }
        depths.put(name, deepest + 1);
        return deepest + 1;
    }

    // Comparing with a bound is what can be read off; that the counter moves is for a reader.
    private static void loops() {
        Set<Tree.Kind> comparing = EnumSet.of(Tree.Kind.LESS_THAN, Tree.Kind.LESS_THAN_EQUAL,
            Tree.Kind.GREATER_THAN, Tree.Kind.GREATER_THAN_EQUAL);
        for (Tree loop : inside(type, LOOPS)) {
            ExpressionTree condition = null;
            if (loop instanceof ForLoopTree its) {
                condition = its.getCondition();
            } else if (loop instanceof WhileLoopTree its) {
                condition = its.getCondition();
            } else if (loop instanceof DoWhileLoopTree its) {
                condition = its.getCondition();
            }
            CHECK.due("a bound: " + condition, inside(condition, comparing).size() > 0, true);
            none("either of two bounds", inside(condition, Tree.Kind.CONDITIONAL_OR));
        }
    }

    private static void calls() {
        for (MethodTree method : METHODS) {
            int parameters = method.getParameters().size();
            CHECK.due(method.getName() + " has few parameters", parameters <= 7, true);
        }
        for (Tree call : inside(type, Tree.Kind.METHOD_INVOCATION)) {
            for (ExpressionTree argument : ((MethodInvocationTree) call).getArguments()) {
                none("calls inside " + call, inside(argument, Tree.Kind.METHOD_INVOCATION));
            }
        }
    }

    private static void sizes() {
        for (MethodTree method : METHODS) {
            LineMap lines = unit.getLineMap();
            long first = lines.getLineNumber(positions.getStartPosition(unit, method));
            long last = lines.getLineNumber(positions.getEndPosition(unit, method));
            CHECK.due(method.getName() + " is short", last - first < 60, true);
        }
        long fields = FIELDS.values().stream().filter(field -> !isStatic(field)).count();
        CHECK.due("few fields", fields <= 40, true);
    }
}
