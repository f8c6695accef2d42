import com.sun.source.tree.*;
import com.sun.source.util.TreeScanner;
import java.util.ArrayDeque;
import java.util.Deque;
import java.util.HashSet;
import java.util.List;
import java.util.Set;

/**
 * Rule 8 of LANGUAGE.md asks for "a counter against a bound" in each loop's own lines. Found here is the loop
 * that has none at all: no name from outside of its body that it both changes and compares, or no way out.
 */
final class LoopEnd extends TreeScanner<Void, Void> {
    private final Set<String> changed = new HashSet<>();
    private final Set<String> compared = new HashSet<>();
    /** The names declared inside the loop, the last one first, each with its first value. */
    private final Deque<VariableTree> declared = new ArrayDeque<>();
    private boolean leaves = false;

    private LoopEnd() {
    }

    static boolean canBeSeen(ExpressionTree condition, List<? extends Tree> inside) {
        LoopEnd end = new LoopEnd();
        end.scan(condition, null);
        end.scan(inside, null);
        for (VariableTree inner : end.declared) {
            end.lookThrough(inner);
        }
        end.changed.retainAll(end.compared);
        return !end.changed.isEmpty() && (end.leaves || !isAlwaysTrue(condition));
    }

    /** A name made anew in each turn counts nothing, but what it is made from may. */
    private void lookThrough(VariableTree inner) {
        String name = inner.getName().toString();
        changed.remove(name);
        if (compared.contains(name)) {
            addNames(inner.getInitializer(), compared);
        }
    }

    private static boolean isAlwaysTrue(ExpressionTree condition) {
        return condition == null || condition.toString().replaceAll("[()]", "").equals("true");
    }

    private static void addNames(Tree tree, Set<String> names) {
        new TreeScanner<Void, Void>() {
            @Override
            public Void visitIdentifier(IdentifierTree name, Void none) {
                names.add(name.toString());
                return null;
            }

            @Override
            public Void visitMemberSelect(MemberSelectTree name, Void none) {
                names.add(name.getIdentifier().toString());
                return super.visitMemberSelect(name, none);
            }
        }.scan(tree, null);
    }

    @Override
    public Void visitAssignment(AssignmentTree tree, Void none) {
        addNames(tree.getVariable(), changed);
        return super.visitAssignment(tree, none);
    }

    @Override
    public Void visitCompoundAssignment(CompoundAssignmentTree tree, Void none) {
        addNames(tree.getVariable(), changed);
        return super.visitCompoundAssignment(tree, none);
    }

    @Override
    public Void visitUnary(UnaryTree tree, Void none) {
        if (tree.getKind().name().endsWith("CREMENT")) {
            addNames(tree.getExpression(), changed);
        }
        return super.visitUnary(tree, none);
    }

    @Override
    public Void visitBinary(BinaryTree tree, Void none) {
        if (tree.getKind().name().matches("(LESS|GREATER)_THAN.*|(NOT_)?EQUAL_TO")) {
            addNames(tree, compared);
        }
        return super.visitBinary(tree, none);
    }

    @Override
    public Void visitSwitch(SwitchTree tree, Void none) {
        addNames(tree.getExpression(), compared);
        return super.visitSwitch(tree, none);
    }

    @Override
    public Void visitSwitchExpression(SwitchExpressionTree tree, Void none) {
        addNames(tree.getExpression(), compared);
        return super.visitSwitchExpression(tree, none);
    }

    @Override
    public Void visitVariable(VariableTree tree, Void none) {
        declared.addFirst(tree);
        return super.visitVariable(tree, none);
    }

    @Override
    public Void visitBreak(BreakTree tree, Void none) {
        leaves = true;
        return null;
    }

    @Override
    public Void visitContinue(ContinueTree tree, Void none) {
        leaves |= tree.getLabel() != null;
        return null;
    }

    @Override
    public Void visitReturn(ReturnTree tree, Void none) {
        leaves = true;
        return super.visitReturn(tree, none);
    }
}
