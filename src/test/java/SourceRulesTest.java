import com.sun.source.tree.ArrayAccessTree;
import com.sun.source.tree.AssignmentTree;
import com.sun.source.tree.BinaryTree;
import com.sun.source.tree.ClassTree;
import com.sun.source.tree.CompilationUnitTree;
import com.sun.source.tree.CompoundAssignmentTree;
import com.sun.source.tree.DoWhileLoopTree;
import com.sun.source.tree.EnhancedForLoopTree;
import com.sun.source.tree.ExpressionTree;
import com.sun.source.tree.ForLoopTree;
import com.sun.source.tree.IdentifierTree;
import com.sun.source.tree.LineMap;
import com.sun.source.tree.MemberSelectTree;
import com.sun.source.tree.MethodInvocationTree;
import com.sun.source.tree.MethodTree;
import com.sun.source.tree.NewArrayTree;
import com.sun.source.tree.NewClassTree;
import com.sun.source.tree.Tree;
import com.sun.source.tree.UnaryTree;
import com.sun.source.tree.VariableTree;
import com.sun.source.tree.WhileLoopTree;
import com.sun.source.util.JavacTask;
import com.sun.source.util.SourcePositions;
import com.sun.source.util.TreeScanner;
import com.sun.source.util.Trees;
import java.io.IOException;
import java.nio.file.Path;
import java.util.List;
import java.util.Map;
import java.util.Set;
import java.util.TreeMap;
import java.util.TreeSet;
import javax.tools.JavaCompiler;
import javax.tools.StandardJavaFileManager;
import javax.tools.ToolProvider;

/**
 * The rules of LANGUAGE.md that are about calls, loops and arrays, seen in the parsed source. It asks for
 * the plainest form, where the rules leave more (a while loop, an array handed to a private method): it
 * is to be widened when the class needs more.
 */
public final class SourceRulesTest {
    private static final Path SOURCE = Path.of("src/main/java/ShardedMap.java");
    private static final int MOST_LINES = 60;
    private static final int MOST_DEEP = 6;
    private static final Set<String> COMPARISONS = Set.of("LESS_THAN", "LESS_THAN_EQUAL", "GREATER_THAN", "GREATER_THAN_EQUAL");
    private static final Set<String> UP = Set.of("LESS_THAN", "LESS_THAN_EQUAL");

    private final Map<String, Set<String>> callsOf = new TreeMap<>();
    private final Map<String, Integer> depthOf = new TreeMap<>();
    private final Set<String> arrays = new TreeSet<>();

    public static void main(String[] args) throws IOException {
        JavaCompiler compiler = ToolProvider.getSystemJavaCompiler();
        try (StandardJavaFileManager files = compiler.getStandardFileManager(null, null, null)) {
            JavacTask task = (JavacTask) compiler.getTask(null, files, null, null, null, files.getJavaFileObjects(SOURCE));
            CompilationUnitTree unit = task.parse().iterator().next();
            Due.is("classes in the file", unit.getTypeDecls().size(), 1);
            new SourceRulesTest().look(unit, Trees.instance(task).getSourcePositions());
        }
        Due.end();
    }

    private void look(CompilationUnitTree unit, SourcePositions positions) {
        ClassTree type = (ClassTree) unit.getTypeDecls().get(0);
        for (Tree member : type.getMembers()) {
            if (member instanceof MethodTree method) {
                isShort(method, unit, positions);
                Due.is("methods of the name " + method.getName(), callsOf.containsKey(name(method)), false);
                callsOf.put(name(method), new TreeSet<>());
            } else if (member instanceof VariableTree field) {
                if (field.getType().getKind() == Tree.Kind.ARRAY_TYPE) {
                    arrays.add(field.getName().toString());
                }
            } else {
                Due.is("a member that is neither a method nor a field: " + member.getKind(), true, false);
            }
        }
        for (Tree member : type.getMembers()) {
            if (member instanceof MethodTree method) {
                new Body(name(method)).scan(method.getBody(), null);
            }
        }
        depths();
    }

    private static String name(MethodTree method) {
        return method.getName().toString();
    }

    /** Rule 10: "Methods stay short (some sixty lines)". */
    private static void isShort(MethodTree method, CompilationUnitTree unit, SourcePositions positions) {
        LineMap lines = unit.getLineMap();
        long first = lines.getLineNumber(positions.getStartPosition(unit, method));
        long last = lines.getLineNumber(positions.getEndPosition(unit, method));
        Due.is(name(method) + " has " + (last - first + 1) + " lines, few enough", last - first < MOST_LINES, true);
    }

    /** Rule 8, no recursion, and rule 10, "calls go at most six deep": a method has a depth once all it calls have. */
    private void depths() {
        for (int round = 0; round < callsOf.size(); round++) {
            callsOf.forEach((method, called) -> {
                if (depthOf.keySet().containsAll(called)) {
                    depthOf.put(method, 1 + called.stream().mapToInt(depthOf::get).max().orElse(0));
                }
            });
        }
        for (String method : callsOf.keySet()) {
            Due.is(method + " does not call itself, nor through others", depthOf.containsKey(method), true);
            Due.is(method + " goes at most six deep", depthOf.getOrDefault(method, 0) <= MOST_DEEP, true);
        }
    }

    /** What stands in one method. */
    private final class Body extends TreeScanner<Void, Void> {
        private final String method;
        private int argumentsAround = 0;

        private Body(String method) {
            this.method = method;
        }

        private void never(String what) {
            Due.is(method + ": " + what, true, false);
        }

        /** Rule 3, no other class is called, and rule 10, "no call stands inside the arguments of another call". */
        @Override
        public Void visitMethodInvocation(MethodInvocationTree call, Void none) {
            String called = call.getMethodSelect().toString();
            if (called.equals("super")) {
                return null;
            }
            Due.is(method + ": " + called + " is a method of the class", callsOf.containsKey(called), true);
            Due.is(method + ": " + called + " stands inside so many calls' arguments", argumentsAround, 0);
            callsOf.get(method).add(called);
            argumentsAround++;
            scan(call.getArguments(), none);
            argumentsAround--;
            return null;
        }

        /** Rule 8: "Every loop has an end that can be seen from its own lines (a counter against a bound)." */
        @Override
        public Void visitForLoop(ForLoopTree loop, Void none) {
            String counter = counterOf(loop);
            if (counter == null) {
                never("a loop without a counter that goes by one to a bound: " + loop.getCondition());
            } else {
                new Counter(counter, boundOf(loop)).scan(loop.getStatement(), null);
            }
            return super.visitForLoop(loop, none);
        }

        private String counterOf(ForLoopTree loop) {
            if (loop.getInitializer().size() != 1 || loop.getUpdate().size() != 1
                || !(loop.getInitializer().get(0) instanceof VariableTree counter)
                || !(loop.getCondition() instanceof BinaryTree test)
                || !(loop.getUpdate().get(0).getExpression() instanceof UnaryTree update)
                || !COMPARISONS.contains(test.getKind().name())) {
                return null;
            }
            String name = counter.getName().toString();
            boolean counts = test.getLeftOperand().toString().equals(name)
                && update.getExpression().toString().equals(name)
                && update.getKind() == (UP.contains(test.getKind().name())
                    ? Tree.Kind.POSTFIX_INCREMENT : Tree.Kind.POSTFIX_DECREMENT);
            return counts ? name : null;
        }

        private String boundOf(ForLoopTree loop) {
            ExpressionTree bound = ((BinaryTree) loop.getCondition()).getRightOperand();
            boolean plain = bound.getKind() == Tree.Kind.IDENTIFIER || bound.getKind() == Tree.Kind.INT_LITERAL;
            Due.is(method + ": the bound " + bound + " is a name or a number", plain, true);
            return bound.toString();
        }

        @Override
        public Void visitWhileLoop(WhileLoopTree loop, Void none) {
            never("a while loop, of which this test cannot see the end");
            return null;
        }

        @Override
        public Void visitDoWhileLoop(DoWhileLoopTree loop, Void none) {
            never("a do loop, of which this test cannot see the end");
            return null;
        }

        @Override
        public Void visitEnhancedForLoop(EnhancedForLoopTree loop, Void none) {
            never("a loop over a whole array, of which this test cannot see the end");
            return null;
        }

        /** Rule 4: "A method makes no object and no array"; the class makes its arrays in the fields' initialisers. */
        @Override
        public Void visitNewArray(NewArrayTree made, Void none) {
            never("makes an array");
            return null;
        }

        @Override
        public Void visitNewClass(NewClassTree made, Void none) {
            never("makes an object");
            return null;
        }

        /** Rules 3 and 4: nothing of another class, no array's length asked instead of a constant, no this. */
        @Override
        public Void visitMemberSelect(MemberSelectTree select, Void none) {
            never("reaches into " + select);
            return null;
        }

        @Override
        public Void visitVariable(VariableTree local, Void none) {
            if (local.getType().getKind() == Tree.Kind.ARRAY_TYPE) {
                never("names an array: " + local);
            }
            return super.visitVariable(local, none);
        }

        /** Rule 4: an array is used by its cells alone, never answered, compared or assigned. */
        @Override
        public Void visitIdentifier(IdentifierTree name, Void none) {
            if (arrays.contains(name.getName().toString())) {
                never("uses the array " + name + " as a whole");
            }
            return null;
        }

        @Override
        public Void visitArrayAccess(ArrayAccessTree access, Void none) {
            Due.is(method + ": " + access.getExpression() + " is an array of the object",
                arrays.contains(access.getExpression().toString()), true);
            return scan(access.getIndex(), none);
        }
    }

    /** That a loop's body changes neither its counter nor its bound. */
    private static final class Counter extends TreeScanner<Void, Void> {
        private final List<String> fixed;

        private Counter(String counter, String bound) {
            fixed = List.of(counter, bound);
        }

        private void isFree(ExpressionTree changed) {
            Due.is("a loop changes its own " + changed, fixed.contains(changed.toString()), false);
        }

        @Override
        public Void visitAssignment(AssignmentTree assignment, Void none) {
            isFree(assignment.getVariable());
            return super.visitAssignment(assignment, none);
        }

        @Override
        public Void visitCompoundAssignment(CompoundAssignmentTree assignment, Void none) {
            isFree(assignment.getVariable());
            return super.visitCompoundAssignment(assignment, none);
        }

        @Override
        public Void visitUnary(UnaryTree unary, Void none) {
            if (unary.getKind().name().endsWith("CREMENT")) {
                isFree(unary.getExpression());
            }
            return super.visitUnary(unary, none);
        }
    }
}
