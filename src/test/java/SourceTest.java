import com.sun.source.tree.ArrayAccessTree;
import com.sun.source.tree.AssignmentTree;
import com.sun.source.tree.BinaryTree;
import com.sun.source.tree.BlockTree;
import com.sun.source.tree.ClassTree;
import com.sun.source.tree.CompilationUnitTree;
import com.sun.source.tree.CompoundAssignmentTree;
import com.sun.source.tree.DoWhileLoopTree;
import com.sun.source.tree.EnhancedForLoopTree;
import com.sun.source.tree.ExpressionTree;
import com.sun.source.tree.ForLoopTree;
import com.sun.source.tree.LineMap;
import com.sun.source.tree.MethodInvocationTree;
import com.sun.source.tree.MethodTree;
import com.sun.source.tree.NewArrayTree;
import com.sun.source.tree.NewClassTree;
import com.sun.source.tree.ParenthesizedTree;
import com.sun.source.tree.StatementTree;
import com.sun.source.tree.Tree;
import com.sun.source.tree.UnaryTree;
import com.sun.source.tree.VariableTree;
import com.sun.source.tree.WhileLoopTree;
import com.sun.source.util.JavacTask;
import com.sun.source.util.SourcePositions;
import com.sun.source.util.TreeScanner;
import com.sun.source.util.Trees;
import java.io.IOException;
import java.nio.file.Path;
import java.util.ArrayList;
import java.util.LinkedHashMap;
import java.util.List;
import java.util.Map;
import java.util.Set;
import java.util.TreeMap;
import java.util.TreeSet;
import javax.lang.model.element.Modifier;
import javax.tools.JavaCompiler;
import javax.tools.StandardJavaFileManager;
import javax.tools.ToolProvider;

/** What rules 3, 4, 7, 8 and 10 of LANGUAGE.md ask of the source's shape, told from its parsed text. */
public final class SourceTest {
    private static final Check check = new Check();
    private static final Path SOURCE = Path.of("src/main/java/HeftPlanner.java");
    private static final int DEEPEST = 6;
    private static final int LONGEST = 60;
    private static final int MOST_PARAMETERS = 7;
    private static final int MOST_FIELDS = 40;

    private static final Map<String, MethodTree> methods = new LinkedHashMap<>();
    private static final List<VariableTree> fields = new ArrayList<>();
    private static final Map<String, Set<String>> callees = new TreeMap<>();

    public static void main(String[] args) throws IOException {
        JavaCompiler compiler = ToolProvider.getSystemJavaCompiler();
        try (StandardJavaFileManager files = compiler.getStandardFileManager(null, null, null)) {
            JavacTask task = (JavacTask) compiler.getTask(null, files, null, null, null,
                files.getJavaFileObjects(SOURCE));
            CompilationUnitTree unit = task.parse().iterator().next();
            gatherMembers((ClassTree) unit.getTypeDecls().get(0));
            fieldsAreFew();
            methodsAreShort(unit, Trees.instance(task).getSourcePositions());
        }
        callsStayInTheClass();
        callsEndAndAreNotDeep();
        methodsMakeNothingAndDivideNothing();
        loopsAreCounted();
        check.end();
    }

    private static void gatherMembers(ClassTree type) {
        for (Tree member : type.getMembers()) {
            if (member instanceof MethodTree) {
                MethodTree method = (MethodTree) member;
                check.holds(nameOf(method) + " is not overloaded", methods.put(nameOf(method), method) == null);
            } else {
                check.holds("a member is a field or a method: " + member, member instanceof VariableTree);
                fields.add((VariableTree) member);
            }
        }
    }

    private static String nameOf(MethodTree method) {
        return method.getName().toString();
    }

    private static boolean isPrivate(String method) {
        return methods.containsKey(method)
            && methods.get(method).getModifiers().getFlags().contains(Modifier.PRIVATE);
    }

    // Rule 10: "the class has at most some forty fields beside its constants"
    private static void fieldsAreFew() {
        long beside = fields.stream().filter(f -> !f.getModifiers().getFlags().contains(Modifier.STATIC)).count();
        check.holds("some forty fields at most: " + beside, beside <= MOST_FIELDS);
    }

    // Rule 10: "A method takes at most seven parameters", "Methods stay short (some sixty lines)"
    private static void methodsAreShort(CompilationUnitTree unit, SourcePositions positions) {
        LineMap lines = unit.getLineMap();
        for (MethodTree method : methods.values()) {
            long first = lines.getLineNumber(positions.getStartPosition(unit, method));
            long last = lines.getLineNumber(positions.getEndPosition(unit, method));
            check.holds(nameOf(method) + " is short", last - first < LONGEST);
            check.holds(nameOf(method) + " takes few parameters", method.getParameters().size() <= MOST_PARAMETERS);
        }
    }

    // Rule 3: "No class of the Java library", rule 10: "no call stands inside the arguments of another call"
    private static void callsStayInTheClass() {
        for (MethodTree method : methods.values()) {
            Set<String> called = new TreeSet<>();
            for (MethodInvocationTree call : found(method, MethodInvocationTree.class)) {
                String name = call.getMethodSelect().toString();
                called.add(name);
                check.holds(nameOf(method) + " calls a private method of the class: " + name, isPrivate(name));
                for (ExpressionTree argument : call.getArguments()) {
                    check.holds("no call in the arguments of " + call,
                        found(argument, MethodInvocationTree.class).isEmpty());
                }
            }
            callees.put(nameOf(method), called);
        }
    }

    // Rule 8: "No recursion, neither direct nor through other methods." Rule 10: "calls go at most six deep"
    private static void callsEndAndAreNotDeep() {
        Set<String> level = new TreeSet<>(methods.keySet());
        for (int depth = 1; depth <= DEEPEST; depth++) {
            Set<String> next = new TreeSet<>();
            for (String name : level) {
                next.addAll(callees.getOrDefault(name, Set.of()));
            }
            level = next;
        }
        check.holds("calls end, six deep at most; deeper ones reach " + level, level.isEmpty());
    }

    // Rule 4: "A method makes no object and no array." Rule 7: "a divisor [is looked at] before it divides". The class
    // has no need to divide, so that there is no divisor to look at.
    private static void methodsMakeNothingAndDivideNothing() {
        for (MethodTree method : methods.values()) {
            check.holds(nameOf(method) + " makes no array", found(method, NewArrayTree.class).isEmpty());
            check.holds(nameOf(method) + " makes no object", found(method, NewClassTree.class).isEmpty());
            for (BinaryTree binary : found(method, BinaryTree.class)) {
                check.holds("no division: " + binary,
                    binary.getKind() != Tree.Kind.DIVIDE && binary.getKind() != Tree.Kind.REMAINDER);
            }
            for (CompoundAssignmentTree change : found(method, CompoundAssignmentTree.class)) {
                check.holds("no division: " + change, change.getKind() != Tree.Kind.DIVIDE_ASSIGNMENT
                    && change.getKind() != Tree.Kind.REMAINDER_ASSIGNMENT);
            }
        }
    }

    // Rule 8: "Every loop has an end that can be seen from its own lines (a counter against a bound)."
    private static void loopsAreCounted() {
        for (MethodTree method : methods.values()) {
            check.holds(nameOf(method) + " has no other kind of loop", found(method, DoWhileLoopTree.class).isEmpty()
                && found(method, EnhancedForLoopTree.class).isEmpty());
            for (ForLoopTree loop : found(method, ForLoopTree.class)) {
                check.holds("counted: " + loop, loop.getCondition() != null
                    && isCounted(method, loop.getCondition(), loop.getUpdate(), loop.getStatement()));
            }
            for (WhileLoopTree loop : found(method, WhileLoopTree.class)) {
                List<? extends StatementTree> body = ((BlockTree) loop.getStatement()).getStatements();
                StatementTree step = body.get(body.size() - 1);
                check.holds("counted: " + loop, isCounted(method, loop.getCondition(), List.of(step),
                    body.subList(0, body.size() - 1).toArray(new Tree[0])));
            }
        }
    }

    // One step of the counter, and nothing else in the loop that changes the counter or what bounds it.
    private static boolean isCounted(MethodTree method, ExpressionTree condition,
            List<? extends StatementTree> steps, Tree... body) {
        if (condition instanceof ParenthesizedTree) {
            return isCounted(method, ((ParenthesizedTree) condition).getExpression(), steps, body);
        }
        if (!(condition instanceof BinaryTree) || steps.size() != 1) {
            return false;
        }
        BinaryTree binary = (BinaryTree) condition;
        if (binary.getKind() == Tree.Kind.CONDITIONAL_AND) {
            return isCounted(method, binary.getLeftOperand(), steps, body)
                || isCounted(method, binary.getRightOperand(), steps, body);
        }
        String counter = binary.getLeftOperand().toString();
        String bound = binary.getRightOperand().toString();
        Set<String> changed = new TreeSet<>();
        for (Tree part : body) {
            changed.addAll(changedIn(part));
        }
        return stepFor(binary.getKind(), counter).equals(steps.get(0).toString()) && isLocal(method, counter)
            && !changed.contains(counter) && !changed.contains(bound) && !isChangedByPrivateMethods(bound);
    }

    private static String stepFor(Tree.Kind comparison, String counter) {
        if (comparison == Tree.Kind.LESS_THAN) {
            return counter + "++;";
        }
        return comparison == Tree.Kind.GREATER_THAN ? counter + "--;" : "";
    }

    private static boolean isLocal(MethodTree method, String name) {
        return found(method, VariableTree.class).stream().anyMatch(v -> v.getName().contentEquals(name));
    }

    // A method that a loop calls must not move a field that bounds the loop; only private methods are called.
    private static boolean isChangedByPrivateMethods(String bound) {
        boolean isField = fields.stream().anyMatch(f -> f.getName().contentEquals(bound));
        return isField && methods.keySet().stream()
            .anyMatch(name -> isPrivate(name) && changedIn(methods.get(name)).contains(bound));
    }

    private static Set<String> changedIn(Tree tree) {
        Set<String> names = new TreeSet<>();
        found(tree, AssignmentTree.class).forEach(a -> names.add(target(a.getVariable())));
        found(tree, CompoundAssignmentTree.class).forEach(a -> names.add(target(a.getVariable())));
        for (UnaryTree unary : found(tree, UnaryTree.class)) {
            boolean steps = unary.getKind().name().endsWith("CREMENT");
            names.add(steps ? target(unary.getExpression()) : "");
        }
        return names;
    }

    private static String target(ExpressionTree variable) {
        return variable instanceof ArrayAccessTree ? "" : variable.toString().replace("this.", "");
    }

    // Every node of a kind in a tree, the tree itself among them.
    private static <T extends Tree> List<T> found(Tree tree, Class<T> kind) {
        List<T> all = new ArrayList<>();
        new TreeScanner<Void, Void>() {
            @Override
            public Void scan(Tree node, Void nothing) {
                if (kind.isInstance(node)) {
                    all.add(kind.cast(node));
                }
                return super.scan(node, nothing);
            }
        }.scan(tree, null);
        return all;
    }
}
