import com.sun.source.tree.*;
import com.sun.source.util.TreeScanner;
import java.util.HashSet;
import java.util.Set;

// The plainest loop whose end can be seen from its own lines: for (int i = a; i < b; i++), with a body
// that assigns neither i nor b. Whether a method that the body calls assigns a field b is not looked at.
final class CountingLoop {
    private CountingLoop() {
    }

    static boolean is(ForLoopTree loop) {
        if (loop.getInitializer().size() != 1 || loop.getUpdate().size() != 1) {
            return false;
        }
        if (!(loop.getInitializer().get(0) instanceof VariableTree start)) {
            return false;
        }
        String counter = start.getName().toString();
        if (!(condition(loop) instanceof BinaryTree test) || test.getKind() != Tree.Kind.LESS_THAN) {
            return false;
        }
        boolean isCounted = isName(test.getLeftOperand(), counter)
            && loop.getUpdate().get(0).getExpression() instanceof UnaryTree step
            && step.getKind() == Tree.Kind.POSTFIX_INCREMENT
            && isName(step.getExpression(), counter);
        Set<String> assigned = assigned(loop.getStatement());
        return isCounted && !assigned.contains(counter) && isBound(test.getRightOperand(), assigned);
    }

    private static Tree condition(ForLoopTree loop) {
        return loop.getCondition() instanceof ParenthesizedTree inner ? inner.getExpression() : loop.getCondition();
    }

    private static boolean isName(Tree tree, String name) {
        return tree instanceof IdentifierTree identifier && identifier.getName().contentEquals(name);
    }

    private static boolean isBound(Tree tree, Set<String> assigned) {
        return tree instanceof LiteralTree || tree instanceof IdentifierTree name && !assigned.contains(name.toString());
    }

    private static Set<String> assigned(Tree body) {
        Set<String> names = new HashSet<>();
        new TreeScanner<Void, Void>() {
            @Override
            public Void visitAssignment(AssignmentTree tree, Void none) {
                names.add(plain(tree.getVariable()));
                return super.visitAssignment(tree, none);
            }

            @Override
            public Void visitCompoundAssignment(CompoundAssignmentTree tree, Void none) {
                names.add(plain(tree.getVariable()));
                return super.visitCompoundAssignment(tree, none);
            }

            @Override
            public Void visitUnary(UnaryTree tree, Void none) {
                if (isStep(tree.getKind())) {
                    names.add(plain(tree.getExpression()));
                }
                return super.visitUnary(tree, none);
            }
        }.scan(body, null);
        return names;
    }

    private static boolean isStep(Tree.Kind kind) {
        return kind == Tree.Kind.POSTFIX_INCREMENT || kind == Tree.Kind.POSTFIX_DECREMENT
            || kind == Tree.Kind.PREFIX_INCREMENT || kind == Tree.Kind.PREFIX_DECREMENT;
    }

    private static String plain(Tree variable) {
        return variable.toString().replace("this.", "");
    }
}
