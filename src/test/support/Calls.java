import com.sun.source.tree.AssignmentTree;
import com.sun.source.tree.BinaryTree;
import com.sun.source.tree.CompoundAssignmentTree;
import com.sun.source.tree.ExpressionStatementTree;
import com.sun.source.tree.ExpressionTree;
import com.sun.source.tree.ForLoopTree;
import com.sun.source.tree.IdentifierTree;
import com.sun.source.tree.LiteralTree;
import com.sun.source.tree.MemberSelectTree;
import com.sun.source.tree.MethodInvocationTree;
import com.sun.source.tree.MethodTree;
import com.sun.source.tree.Tree;
import com.sun.source.tree.UnaryTree;
import com.sun.source.tree.VariableTree;
import com.sun.source.util.TreeScanner;
import java.util.ArrayDeque;
import java.util.Deque;
import java.util.HashMap;
import java.util.HashSet;
import java.util.Map;
import java.util.Set;

/** Rule 8 of LANGUAGE.md, and of rule 10 how deep calls go. */
final class Calls {
    private static final int MOST_DEEP = 6;
    private static final Set<Tree.Kind> WITHOUT_COUNTER = Set.of(
            Tree.Kind.WHILE_LOOP, Tree.Kind.DO_WHILE_LOOP, Tree.Kind.ENHANCED_FOR_LOOP);

    private final Program program;
    private final Map<String, MethodTree> methods = new HashMap<>();

    Calls(Program program) {
        this.program = program;
        for (MethodTree method : program.methods()) {
            methods.put(method.getName().toString(), method);
        }
    }

    void check() {
        for (String method : methods.keySet()) {
            follow(method, new ArrayDeque<>());
        }
        program.unit().accept(new Loops(), null);
    }

    /** Follows every chain of calls that begins with this method. */
    private void follow(String method, Deque<String> callers) {
        MethodTree tree = methods.get(method);
        // A name that is not a method of the class is found by another rule.
        if (tree == null) {
            return;
        }
        if (callers.contains(method)) {
            program.fault(8, tree, "recursion: " + callers + " calls " + method);
            return;
        }
        callers.addLast(method);
        if (callers.size() > MOST_DEEP) {
            program.fault(10, tree, "calls too deep: " + callers);
        }
        for (String called : namesCalledIn(tree)) {
            follow(called, callers);
        }
        callers.removeLast();
    }

    static Set<String> namesCalledIn(Tree tree) {
        Set<String> called = new HashSet<>();
        new TreeScanner<Void, Void>() {
            @Override
            public Void visitMethodInvocation(MethodInvocationTree call, Void nothing) {
                called.add(call.getMethodSelect().toString());
                return super.visitMethodInvocation(call, nothing);
            }
        }.scan(tree, null);
        return called;
    }

    /** The variables that get another value in this tree or in what it calls. */
    private Set<String> namesChangedBy(Tree tree) {
        Set<String> changed = new HashSet<>();
        Set<String> seen = new HashSet<>();
        Deque<Tree> left = new ArrayDeque<>();
        left.add(tree);
        while (!left.isEmpty()) {
            Tree next = left.remove();
            changed.addAll(namesAssignedIn(next));
            for (String called : namesCalledIn(next)) {
                if (methods.containsKey(called) && seen.add(called)) {
                    left.add(methods.get(called));
                }
            }
        }
        return changed;
    }

    private static Set<String> namesAssignedIn(Tree tree) {
        Set<String> assigned = new HashSet<>();
        new TreeScanner<Void, Void>() {
            @Override
            public Void visitAssignment(AssignmentTree assignment, Void nothing) {
                assigned.add(nameOf(assignment.getVariable()));
                return super.visitAssignment(assignment, nothing);
            }

            @Override
            public Void visitCompoundAssignment(CompoundAssignmentTree assignment, Void nothing) {
                assigned.add(nameOf(assignment.getVariable()));
                return super.visitCompoundAssignment(assignment, nothing);
            }

            @Override
            public Void visitUnary(UnaryTree unary, Void nothing) {
                switch (unary.getKind()) {
                    case POSTFIX_INCREMENT, POSTFIX_DECREMENT, PREFIX_INCREMENT, PREFIX_DECREMENT ->
                            assigned.add(nameOf(unary.getExpression()));
                    default -> { }
                }
                return super.visitUnary(unary, nothing);
            }
        }.scan(tree, null);
        return assigned;
    }

    private static String nameOf(ExpressionTree variable) {
        return variable instanceof MemberSelectTree
                ? ((MemberSelectTree) variable).getIdentifier().toString()
                : variable.toString();
    }

    /** Lets only those loops through that count one by one to a bound that stands still. */
    private final class Loops extends TreeScanner<Void, Void> {
        @Override
        public Void visitForLoop(ForLoopTree loop, Void nothing) {
            if (!counts(loop)) {
                program.fault(8, loop, "a loop that does not count to a bound");
            }
            return super.visitForLoop(loop, nothing);
        }

        @Override
        public Void scan(Tree tree, Void nothing) {
            if (tree != null && WITHOUT_COUNTER.contains(tree.getKind())) {
                program.fault(8, tree, "a loop without a counter");
            }
            return super.scan(tree, nothing);
        }

        private boolean counts(ForLoopTree loop) {
            boolean hasParts = loop.getInitializer().size() == 1
                    && loop.getInitializer().get(0) instanceof VariableTree
                    && loop.getCondition() instanceof BinaryTree
                    && loop.getUpdate().size() == 1;
            if (!hasParts) {
                return false;
            }
            String counter = ((VariableTree) loop.getInitializer().get(0)).getName().toString();
            BinaryTree condition = (BinaryTree) loop.getCondition();
            ExpressionTree bound = condition.getRightOperand();
            Set<String> changed = namesChangedBy(loop.getStatement());
            return condition.getLeftOperand().toString().equals(counter)
                    && goesTowardsBound(condition, loop.getUpdate().get(0), counter)
                    && (bound instanceof IdentifierTree || bound instanceof LiteralTree)
                    && !changed.contains(counter)
                    && !changed.contains(bound.toString());
        }

        private boolean goesTowardsBound(
                BinaryTree condition, ExpressionStatementTree update, String counter) {
            ExpressionTree step = update.getExpression();
            boolean isUp = condition.getKind() == Tree.Kind.LESS_THAN
                    && step.getKind() == Tree.Kind.POSTFIX_INCREMENT;
            boolean isDown = condition.getKind() == Tree.Kind.GREATER_THAN
                    && step.getKind() == Tree.Kind.POSTFIX_DECREMENT;
            return (isUp || isDown)
                    && ((UnaryTree) step).getExpression().toString().equals(counter);
        }
    }
}
