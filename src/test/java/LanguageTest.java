import com.sun.source.tree.ArrayTypeTree;
import com.sun.source.tree.AssertTree;
import com.sun.source.tree.AssignmentTree;
import com.sun.source.tree.BinaryTree;
import com.sun.source.tree.BlockTree;
import com.sun.source.tree.ClassTree;
import com.sun.source.tree.CompoundAssignmentTree;
import com.sun.source.tree.DoWhileLoopTree;
import com.sun.source.tree.EnhancedForLoopTree;
import com.sun.source.tree.ExpressionTree;
import com.sun.source.tree.ForLoopTree;
import com.sun.source.tree.IdentifierTree;
import com.sun.source.tree.InstanceOfTree;
import com.sun.source.tree.LambdaExpressionTree;
import com.sun.source.tree.LiteralTree;
import com.sun.source.tree.MemberReferenceTree;
import com.sun.source.tree.MemberSelectTree;
import com.sun.source.tree.MethodInvocationTree;
import com.sun.source.tree.MethodTree;
import com.sun.source.tree.NewArrayTree;
import com.sun.source.tree.NewClassTree;
import com.sun.source.tree.PrimitiveTypeTree;
import com.sun.source.tree.SynchronizedTree;
import com.sun.source.tree.ThrowTree;
import com.sun.source.tree.Tree;
import com.sun.source.tree.TryTree;
import com.sun.source.tree.TypeCastTree;
import com.sun.source.tree.UnaryTree;
import com.sun.source.tree.VariableTree;
import com.sun.source.tree.WhileLoopTree;
import com.sun.source.util.TreePath;
import java.io.IOException;
import java.util.HashSet;
import java.util.List;
import java.util.Map;
import java.util.Set;
import javax.lang.model.element.Element;
import javax.lang.model.element.Modifier;
import javax.lang.model.type.TypeKind;

/**
 * The rules of LANGUAGE.md, named by their numbers, looked for in the class's file. Where a rule leaves more room
 * than the class uses (an array made in the constructor, a while loop), the test asks for the simpler form.
 */
public final class LanguageTest {
    private static final String FILE = "src/main/java/TreeScorer.java";
    private static final Set<TypeKind> NUMBERS = Set.of(
        TypeKind.INT, TypeKind.LONG, TypeKind.SHORT, TypeKind.BYTE, TypeKind.CHAR, TypeKind.BOOLEAN);
    private static final Set<Tree.Kind> LITERALS = Set.of(
        Tree.Kind.INT_LITERAL, Tree.Kind.LONG_LITERAL, Tree.Kind.CHAR_LITERAL, Tree.Kind.BOOLEAN_LITERAL);
    private static final List<Class<? extends Tree>> RULED_OUT = List.of(
        ThrowTree.class, TryTree.class, SynchronizedTree.class, AssertTree.class, InstanceOfTree.class,
        LambdaExpressionTree.class, MemberReferenceTree.class);
    private static final List<Class<? extends Tree>> OTHER_LOOPS = List.of(
        WhileLoopTree.class, DoWhileLoopTree.class, EnhancedForLoopTree.class);
    private static final int WILD_CALLS = 200000;
    private static final int MOST_CALLS = 512;
    private static final Due DUE = new Due();

    private static Source source;

    public static void main(String[] args) throws IOException {
        source = new Source(args.length == 0 ? FILE : args[0]);
        DUE.sentence("1: one class, public and final", LanguageTest::oneClass);
        DUE.sentence("2: whole numbers and rows of them, no other type", LanguageTest::types);
        DUE.sentence("3: no class of the library", LanguageTest::noLibrary);
        DUE.sentence("4: arrays are made once, in the fields' initialisers", LanguageTest::arrays);
        DUE.sentence("5: static fields are constants", LanguageTest::staticFields);
        DUE.sentence("6: nothing of what is ruled out", LanguageTest::ruledOut);
        DUE.sentence("7: no call throws, whatever the arguments and the state", LanguageTest::wildCalls);
        DUE.sentence("8: no recursion", LanguageTest::noRecursion);
        DUE.sentence("8: every loop counts towards a bound", LanguageTest::loops);
        DUE.sentence("10: few parameters, short methods, no call inside a call", LanguageTest::sizes);
        DUE.sentence("10: calls go at most six deep", LanguageTest::deepCalls);
        DUE.sentence("11: the same calls give the same answers", LanguageTest::sameAnswers);
        DUE.end();
    }

    private static void oneClass() {
        DUE.is("a package line", source.unit.getPackageName() != null, false);
        DUE.is("types in the file", source.unit.getTypeDecls().size(), 1);
        List<ClassTree> classes = source.all(ClassTree.class);
        DUE.is("classes", classes.size(), 1);
        DUE.is("public final and no more",
            classes.get(0).getModifiers().getFlags().equals(Set.of(Modifier.PUBLIC, Modifier.FINAL)), true);
        DUE.is("extends a class", classes.get(0).getExtendsClause() != null, false);
        DUE.is("implements interfaces", classes.get(0).getImplementsClause().size(), 0);
    }

    private static boolean isNumber(Tree type) {
        return type instanceof PrimitiveTypeTree one && NUMBERS.contains(one.getPrimitiveTypeKind());
    }

    private static boolean isVoid(Tree type) {
        return type instanceof PrimitiveTypeTree one && one.getPrimitiveTypeKind() == TypeKind.VOID;
    }

    private static void types() {
        for (VariableTree variable : source.all(VariableTree.class)) {
            Tree type = variable.getType();
            boolean row = type instanceof ArrayTypeTree array && isNumber(array.getType());
            DUE.is("type of " + variable, row || isNumber(type), true);
        }
        for (MethodTree method : source.all(MethodTree.class)) {
            Tree type = method.getReturnType();
            boolean made = method.getName().contentEquals("<init>");
            DUE.is("what " + method.getName() + " answers", made || isVoid(type) || isNumber(type), true);
        }
        for (LiteralTree literal : source.all(LiteralTree.class)) {
            DUE.is("literal " + literal, LITERALS.contains(literal.getKind()), true);
        }
    }

    private static void noLibrary() {
        DUE.is("imports", source.unit.getImports().size(), 0);
        DUE.is("objects made", source.all(NewClassTree.class).size(), 0);
        DUE.is("names with a dot", source.all(MemberSelectTree.class).size(), 0);
        for (IdentifierTree name : source.all(IdentifierTree.class)) {
            Element element = source.element(name);
            boolean own = element != null && isOwn(element);
            DUE.is("the name " + name + " is the class's own", own, true);
        }
    }

    private static boolean isOwn(Element element) {
        switch (element.getKind()) {
            case PARAMETER: case LOCAL_VARIABLE:
                return true;
            case FIELD: case METHOD:
                return element.getEnclosingElement().getSimpleName().contentEquals("TreeScorer");
            default:
                return false;
        }
    }

    private static void arrays() {
        for (TreePath path : source.paths(NewArrayTree.class)) {
            NewArrayTree made = (NewArrayTree) path.getLeaf();
            boolean ofField = path.getParentPath().getLeaf() instanceof VariableTree
                && path.getParentPath().getParentPath().getLeaf() instanceof ClassTree;
            DUE.is(made + " is a field's initialiser", ofField, true);
            DUE.is(made + " has one length", made.getDimensions().size() == 1 && made.getInitializers() == null, true);
            DUE.is(made + " has a constant length, 1 or more", constantLength(made.getDimensions().get(0)) >= 1, true);
        }
        for (TreePath path : source.paths(VariableTree.class)) {
            VariableTree variable = (VariableTree) path.getLeaf();
            if (variable.getType() instanceof ArrayTypeTree) {
                boolean field = path.getParentPath().getLeaf() instanceof ClassTree;
                DUE.is(variable + " is a field or a parameter", field || isParameter(path), true);
                DUE.is(variable + " never changes", !field || flags(variable).contains(Modifier.FINAL), true);
            }
        }
        for (BinaryTree binary : source.all(BinaryTree.class)) {
            DUE.is(binary + " compares arrays", source.type(binary.getLeftOperand()) == TypeKind.ARRAY, false);
        }
    }

    private static boolean isParameter(TreePath path) {
        return path.getParentPath().getLeaf() instanceof MethodTree;
    }

    private static Set<Modifier> flags(VariableTree variable) {
        return variable.getModifiers().getFlags();
    }

    private static int constantLength(ExpressionTree length) {
        Object value = length instanceof LiteralTree literal ? literal.getValue() : source.constant(length);
        return value instanceof Integer number ? number : 0;
    }

    private static void staticFields() {
        for (VariableTree variable : source.all(VariableTree.class)) {
            if (flags(variable).contains(Modifier.STATIC)) {
                TypeKind type = source.type(variable);
                DUE.is(variable + " is int or long", type == TypeKind.INT || type == TypeKind.LONG, true);
                DUE.is(variable + " is a constant", source.constant(variable) != null, true);
            }
        }
        for (BlockTree block : source.all(BlockTree.class)) {
            DUE.is("a static initialiser", block.isStatic(), false);
        }
    }

    private static void ruledOut() {
        for (Class<? extends Tree> kind : RULED_OUT) {
            DUE.is(kind.getSimpleName(), source.all(kind).size(), 0);
        }
        for (TypeCastTree cast : source.all(TypeCastTree.class)) {
            DUE.is(cast + " is a cast between numbers", isNumber(cast.getType()), true);
        }
    }

    private static void noRecursion() {
        Map<String, Set<String>> calls = source.calls();
        for (String method : calls.keySet()) {
            Set<String> reached = new HashSet<>(calls.get(method));
            for (int n = 0; n < calls.size(); n++) {
                for (String other : List.copyOf(reached)) {
                    reached.addAll(calls.getOrDefault(other, Set.of()));
                }
            }
            DUE.is(method + " comes to itself", reached.contains(method), false);
        }
    }

    private static void loops() {
        for (Class<? extends Tree> kind : OTHER_LOOPS) {
            DUE.is(kind.getSimpleName(), source.all(kind).size(), 0);
        }
        for (ForLoopTree loop : source.all(ForLoopTree.class)) {
            String head = "for (" + loop.getInitializer() + "; " + loop.getCondition() + "; " + loop.getUpdate() + ")";
            DUE.is(head + " has one counter", loop.getInitializer().size() == 1
                && loop.getInitializer().get(0) instanceof VariableTree, true);
            String counter = ((VariableTree) loop.getInitializer().get(0)).getName().toString();
            DUE.is(head + " counts", counts(loop, counter), true);
            Set<String> changed = changedIn(loop.getStatement());
            DUE.is(head + " counts in its head alone", changed.contains(counter), false);
            BinaryTree condition = (BinaryTree) loop.getCondition();
            DUE.is(head + " keeps its bound", changed.contains(rowName(condition.getRightOperand())), false);
        }
    }

    private static boolean counts(ForLoopTree loop, String counter) {
        boolean looks = loop.getCondition() instanceof BinaryTree condition
            && condition.getLeftOperand().toString().equals(counter);
        if (!looks || loop.getUpdate().size() != 1) {
            return false;
        }
        String update = loop.getUpdate().get(0).toString();
        switch (loop.getCondition().getKind()) {
            case LESS_THAN: case LESS_THAN_EQUAL:
                return update.equals(counter + "++;");
            case GREATER_THAN: case GREATER_THAN_EQUAL:
                return update.equals(counter + "--;");
            default:
                return false;
        }
    }

    /** The names of the variables and arrays that a part writes to. */
    private static Set<String> changedIn(Tree part) {
        Set<String> names = new HashSet<>();
        for (AssignmentTree change : source.inside(part, AssignmentTree.class)) {
            names.add(rowName(change.getVariable()));
        }
        for (CompoundAssignmentTree change : source.inside(part, CompoundAssignmentTree.class)) {
            names.add(rowName(change.getVariable()));
        }
        for (UnaryTree change : source.inside(part, UnaryTree.class)) {
            if (change.getKind().name().contains("CREMENT")) {
                names.add(rowName(change.getExpression()));
            }
        }
        return names;
    }

    private static String rowName(Tree expression) {
        return expression.toString().replaceAll("\\[.*", "");
    }

    private static void sizes() {
        int fields = 0;
        for (TreePath path : source.paths(VariableTree.class)) {
            boolean field = path.getParentPath().getLeaf() instanceof ClassTree;
            fields += field && !flags((VariableTree) path.getLeaf()).contains(Modifier.STATIC) ? 1 : 0;
        }
        DUE.is("at most 40 fields: " + fields, fields <= 40, true);
        for (MethodTree method : source.all(MethodTree.class)) {
            DUE.is(method.getName() + " has at most 7 parameters", method.getParameters().size() <= 7, true);
            DUE.is(method.getName() + " has at most 60 lines", source.lines(method) <= 60, true);
        }
        for (MethodInvocationTree call : source.all(MethodInvocationTree.class)) {
            DUE.is("a call inside " + call, source.inside(call, MethodInvocationTree.class).size(), 0);
        }
    }

    private static void deepCalls() {
        Map<String, Set<String>> calls = source.calls();
        Set<String> level = calls.keySet();
        int deep = 0;
        // A recursion would go on for ever; more levels than methods are enough to tell.
        while (!level.isEmpty() && deep <= calls.size()) {
            Set<String> next = new HashSet<>();
            for (String method : level) {
                next.addAll(calls.getOrDefault(method, Set.of()));
            }
            level = next;
            deep++;
        }
        DUE.is("calls go at most six deep: " + deep, deep <= 6, true);
    }

    /** A number from the call's number alone: every run of the test makes the same calls. */
    private static int mixed(int call, int which) {
        long mixed = (call * 31L + which) * 6364136223846793005L + 1442695040888963407L;
        mixed = (mixed ^ (mixed >>> 29)) * 2862933555777941757L;
        return (int) (mixed >>> 32);
    }

    /** Mostly small enough for a tree, a leaf, a feature or a limit; now and then a point, or far outside. */
    private static int wild(int call, int which) {
        int number = mixed(call, which);
        switch (number >>> 28) {
            case 0: return mixed(call, which + 10);
            case 1: return number & 65535;
            case 2: return (number & 31) - 8;
            case 3: case 4: return number & 15;
            case 5: case 6: return number & 7;
            case 7: case 8: return number & 1;
            default: return number & 3;
        }
    }

    private static long wildCall(TreeScorer x, int call) {
        int a = wild(call, 1);
        int b = wild(call, 2);
        int c = wild(call, 3);
        int d = wild(call, 4);
        switch ((mixed(call, 5) >>> 8) % 60) {
            case 0: return x.setValue(a, b, c) ? 1 : 0;
            case 1: return x.clear(a) ? 1 : 0;
            case 2: return x.leaves(a);
            case 3: return x.value(a, b);
            case 4: return x.leafOf(a, b);
            case 5: return x.score(a);
            case 6: return x.depth(a);
            case 7: return x.leavesAlong(a, b, c);
            case 8: return x.bestValue(a, b);
            case 9: return x.reachable(a);
            case 10: return x.range(a, b, c, d);
            case 11: return x.asks(a);
            default: return x.split(a, b, c, d);
        }
    }

    /** Far more than 512 calls: what they answer is free, but they may not throw either. */
    private static void wildCalls() {
        TreeScorer x = new TreeScorer();
        int ended = 0;
        while (ended < WILD_CALLS) {
            wildCall(x, ended);
            ended++;
        }
        DUE.is("calls that came to an end", ended, WILD_CALLS);
    }

    private static void sameAnswers() {
        for (int run = 0; run < 40; run++) {
            TreeScorer x = new TreeScorer();
            TreeScorer y = new TreeScorer();
            for (int n = 0; n < MOST_CALLS; n++) {
                int call = run * MOST_CALLS + n;
                DUE.is("call " + call, wildCall(x, call), wildCall(y, call));
            }
        }
    }
}
