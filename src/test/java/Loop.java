import com.sun.source.tree.AssignmentTree;
import com.sun.source.tree.BinaryTree;
import com.sun.source.tree.BreakTree;
import com.sun.source.tree.CompoundAssignmentTree;
import com.sun.source.tree.DoWhileLoopTree;
import com.sun.source.tree.ExpressionTree;
import com.sun.source.tree.ForLoopTree;
import com.sun.source.tree.IfTree;
import com.sun.source.tree.ParenthesizedTree;
import com.sun.source.tree.ReturnTree;
import com.sun.source.tree.StatementTree;
import com.sun.source.tree.Tree;
import com.sun.source.tree.Tree.Kind;
import com.sun.source.tree.UnaryTree;
import com.sun.source.tree.VariableTree;
import com.sun.source.tree.WhileLoopTree;
import com.sun.source.util.TreeScanner;
import java.util.EnumSet;
import java.util.HashMap;
import java.util.HashSet;
import java.util.Map;
import java.util.Set;

/**
 * Rule 8: does a loop have a counter against a bound in its own lines? A counter is stepped there, one way only and
 * towards the bound, and is not made anew in the body. Whether a step stands behind a condition is not looked at, and
 * a loop over all of an array, which shows no counter, does not come here.
 */
final class Loop extends TreeScanner<Void, Void> {
    private enum Step { UP, DOWN, ELSE }

    private static final Set<Kind> LOOPS = EnumSet.of(Kind.FOR_LOOP, Kind.WHILE_LOOP, Kind.DO_WHILE_LOOP,
            Kind.ENHANCED_FOR_LOOP);

    private final ExpressionTree condition;
    private final Map<String, Set<Step>> steps = new HashMap<>();
    private final Set<String> steppedInOwnLines = new HashSet<>();
    private final Set<String> madeInside = new HashSet<>();
    private final Set<ExpressionTree> exits = new HashSet<>();
    private int loopsInside = 0;

    Loop(ForLoopTree loop) {
        condition = loop.getCondition();
        scan(loop.getUpdate(), null);
        read(loop.getStatement());
    }

    Loop(WhileLoopTree loop) {
        condition = loop.getCondition();
        read(loop.getStatement());
    }

    Loop(DoWhileLoopTree loop) {
        condition = loop.getCondition();
        read(loop.getStatement());
    }

    private void read(StatementTree body) {
        scan(condition, null);
        scan(body, null);
    }

    boolean ends() {
        return condition != null && binds(condition, false) || exits.stream().anyMatch(exit -> binds(exit, true));
    }

    /** A condition to go on binds if one part of an "and" does; a condition to leave, if one part of an "or" does. */
    private boolean binds(ExpressionTree tree, boolean leaves) {
        if (tree instanceof ParenthesizedTree inner) {
            return binds(inner.getExpression(), leaves);
        }
        if (!(tree instanceof BinaryTree two)) {
            return false;
        }
        ExpressionTree left = two.getLeftOperand();
        ExpressionTree right = two.getRightOperand();
        switch (two.getKind()) {
            case CONDITIONAL_AND:
                return leaves ? binds(left, true) && binds(right, true) : binds(left, false) || binds(right, false);
            case CONDITIONAL_OR:
                return leaves ? binds(left, true) || binds(right, true) : binds(left, false) && binds(right, false);
            case LESS_THAN:
            case LESS_THAN_EQUAL:
                return leaves ? meets(right, left) : meets(left, right);
            case GREATER_THAN:
            case GREATER_THAN_EQUAL:
                return leaves ? meets(left, right) : meets(right, left);
            case NOT_EQUAL_TO:
                return !leaves && (meets(left, right) || meets(right, left));
            case EQUAL_TO:
                return leaves && (meets(left, right) || meets(right, left));
            default:
                return false;
        }
    }

    /** One side counts towards the other one, which does not run away from it. */
    private boolean meets(ExpressionTree low, ExpressionTree high) {
        return hasCounter(low, Step.UP) && !moves(high, Step.UP)
                || hasCounter(high, Step.DOWN) && !moves(low, Step.DOWN);
    }

    private boolean hasCounter(ExpressionTree side, Step way) {
        return partsOf(side).stream().anyMatch(name -> steppedInOwnLines.contains(name)
                && !madeInside.contains(name) && steps.get(name).equals(Set.of(way)));
    }

    private boolean moves(ExpressionTree side, Step way) {
        return partsOf(side).stream().anyMatch(name -> {
            Set<Step> ways = steps.getOrDefault(name, Set.of());
            return ways.contains(way) || ways.contains(Step.ELSE);
        });
    }

    private static Set<String> partsOf(ExpressionTree side) {
        Set<String> parts = new HashSet<>();
        new TreeScanner<Void, Void>() {
            @Override
            public Void scan(Tree tree, Void none) {
                if (tree != null) {
                    parts.add(tree.toString());
                }
                return super.scan(tree, none);
            }
        }.scan(side, null);
        return parts;
    }

    private void step(ExpressionTree variable, Step way) {
        String name = variable.toString();
        steps.computeIfAbsent(name, none -> EnumSet.noneOf(Step.class)).add(way);
        if (loopsInside == 0) {
            steppedInOwnLines.add(name);
        }
    }

    @Override
    public Void scan(Tree tree, Void none) {
        int one = tree != null && LOOPS.contains(tree.getKind()) ? 1 : 0;
        loopsInside += one;
        super.scan(tree, none);
        loopsInside -= one;
        return null;
    }

    @Override
    public Void visitVariable(VariableTree variable, Void none) {
        madeInside.add(variable.getName().toString());
        return super.visitVariable(variable, none);
    }

    @Override
    public Void visitUnary(UnaryTree tree, Void none) {
        switch (tree.getKind()) {
            case PREFIX_INCREMENT, POSTFIX_INCREMENT -> step(tree.getExpression(), Step.UP);
            case PREFIX_DECREMENT, POSTFIX_DECREMENT -> step(tree.getExpression(), Step.DOWN);
            default -> { }
        }
        return super.visitUnary(tree, none);
    }

    @Override
    public Void visitCompoundAssignment(CompoundAssignmentTree tree, Void none) {
        switch (tree.getKind()) {
            case PLUS_ASSIGNMENT, MULTIPLY_ASSIGNMENT, LEFT_SHIFT_ASSIGNMENT -> step(tree.getVariable(), Step.UP);
            case MINUS_ASSIGNMENT, DIVIDE_ASSIGNMENT, RIGHT_SHIFT_ASSIGNMENT, UNSIGNED_RIGHT_SHIFT_ASSIGNMENT ->
                step(tree.getVariable(), Step.DOWN);
            default -> step(tree.getVariable(), Step.ELSE);
        }
        return super.visitCompoundAssignment(tree, none);
    }

    @Override
    public Void visitAssignment(AssignmentTree tree, Void none) {
        String name = tree.getVariable().toString();
        Step way = Step.ELSE;
        if (tree.getExpression() instanceof BinaryTree two && two.getLeftOperand().toString().equals(name)) {
            way = two.getKind() == Kind.PLUS ? Step.UP : two.getKind() == Kind.MINUS ? Step.DOWN : Step.ELSE;
        }
        step(tree.getVariable(), way);
        return super.visitAssignment(tree, none);
    }

    @Override
    public Void visitIf(IfTree tree, Void none) {
        if (loopsInside == 0 && leaves(tree.getThenStatement())) {
            exits.add(tree.getCondition());
        }
        return super.visitIf(tree, none);
    }

    private static boolean leaves(StatementTree statement) {
        boolean[] found = {false};
        new TreeScanner<Void, Void>() {
            @Override
            public Void visitBreak(BreakTree tree, Void none) {
                found[0] = true;
                return null;
            }

            @Override
            public Void visitReturn(ReturnTree tree, Void none) {
                found[0] = true;
                return null;
            }
        }.scan(statement, null);
        return found[0];
    }
}
