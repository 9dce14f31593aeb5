import java.util.function.ToIntBiFunction;
import java.util.function.ToIntFunction;

/** The boundary cases that promises 7 to 13 name, a sentence at a time, for every number of variables. */
public final class ChangeEdgeTest {
    private static final Due DUE = new Due();

    public static void main(String[] args) {
        for (int n = 2; n <= 6; n++) {
            expandKeeps(n);
            refused("Promise 7", n, BeliefBase::expand);
            reviseTakesTheNearest(n);
            reviseOfEmptyBelief(n);
            reviseByTrueNowhere(n);
            refused("Promise 8", n, BeliefBase::revise);
            updateOfEmptyBelief(n);
            updateByTrueNowhere(n);
            updateByProperParts(n);
            refused("Promise 9", n, BeliefBase::update);
            giveUpOfEmptyBelief(n);
            giveUpOfTrueEverywhere(n);
            giveUpTakesTheNearest(n);
            giveUpOfNotBelieved(n);
            refused("Promise 10", n, BeliefBase::giveUp);
            forgetJoins(n);
            forgetOfNoBelief(n);
            forgetOfNoVariable(n);
            forgetLeavesTheStack(n);
            mergeOfEmptyBeliefs(n);
            mergeByTrueNowhere(n);
            mergeOfTheSame(n);
            mergeOfNoBelief(n);
            mergeOnEmptyStack(n);
            mergeAnswersB(n);
            copyOfAnyBelief(n);
            copyOfTheSame(n);
            copyOfNoBelief(n);
            copyLeavesTheStack(n);
        }
        DUE.end();
    }

    private static void dueChange(
            int n, String told, ToIntFunction<BeliefBase> call, long belief, long formula, long due) {
        Change.due(DUE, told, n, call, belief, formula, due);
    }

    private static void dueMerge(int n, String told, long a, long b, long formula, long due) {
        Change.dueMerge(DUE, told, n, a, b, formula, due);
    }

    private static int last(int n) {
        return (1 << n) - 1;
    }

    private static void expandKeeps(int n) {
        DUE.sentence("Promise 7", n, "The belief keeps only its worlds at which F is true.");
        ToIntFunction<BeliefBase> expand = x -> x.expand(0);
        long all = Sets.all(n);
        long ends = Sets.of(0, last(n));
        dueChange(n, "an empty belief", expand, 0, ends, 0);
        dueChange(n, "an empty belief, true everywhere", expand, 0, all, 0);
        dueChange(n, "an empty belief, true nowhere", expand, 0, 0, 0);
        dueChange(n, "true nowhere", expand, ends, 0, 0);
        dueChange(n, "true everywhere", expand, ends, all, ends);
        dueChange(n, "all worlds", expand, all, ends, ends);
        dueChange(n, "all worlds, true everywhere", expand, all, all, all);
        dueChange(n, "all worlds, true nowhere", expand, all, 0, 0);
        dueChange(n, "nothing in common", expand, Sets.of(0), Sets.of(last(n)), 0);
    }

    private static void refused(String where, int n, ToIntBiFunction<BeliefBase, Integer> call) {
        DUE.sentence(where, n, "-1 if b is not good");
        for (int depth : new int[] {0, 1, 8}) {
            BeliefBase x = State.made(n, depth);
            for (int b : Bad.beliefs()) {
                DUE.due("b " + b + " on " + depth, call.applyAsInt(x, b), -1);
            }
            DUE.due("then depth()", x.depth(), depth);
        }
        DUE.sentence(where, n, "-2 if the stack is empty");
        for (int b = 0; b < 3; b++) {
            BeliefBase x = new BeliefBase(n);
            DUE.due("b " + b + " of a new object", call.applyAsInt(x, b), -2);
            DUE.due("b " + b + " of a new object, then count", x.count(b), 1 << n);
            x.quote(b);
            DUE.due("b " + b + " with one formula", call.applyAsInt(x, b), 1 << n);
            DUE.due("b " + b + " of an emptied stack", call.applyAsInt(x, b), -2);
            DUE.due("b " + b + " of an emptied stack, then depth()", x.depth(), 0);
        }
        DUE.sentence(where, n, "otherwise answers how many worlds the belief holds now");
        for (int b = 0; b < 3; b++) {
            // A formula that is true everywhere changes no belief, by whichever of these calls.
            long[] beliefs = {Sets.of(0, 1, 2), Sets.of(0, last(n)), Sets.of(last(n))};
            BeliefBase x = Sets.base(n, beliefs);
            Sets.push(x, n, Sets.all(n));
            DUE.due("b " + b, call.applyAsInt(x, b), 3 - b);
            for (int c = 0; c < 3; c++) {
                DUE.dueWorlds("b " + b + ", then belief " + c, Sets.belief(x, c), beliefs[c]);
            }
        }
    }

    private static void reviseTakesTheNearest(int n) {
        DUE.sentence("Promise 8", n, "whose distance from the belief (as it was) is least");
        ToIntFunction<BeliefBase> revise = x -> x.revise(0);
        dueChange(n, "the whole way", revise, Sets.of(0), Sets.of(last(n)), Sets.of(last(n)));
        dueChange(n, "the whole way back", revise, Sets.of(last(n)), Sets.of(0), Sets.of(0));
        long notLast = Sets.all(n) & ~Sets.of(last(n));
        dueChange(n, "one step", revise, Sets.of(last(n)), notLast, Sets.around(n, last(n)));
        dueChange(n, "no step", revise, Sets.of(0, last(n)), notLast, Sets.of(0));
        dueChange(n, "all worlds", revise, Sets.all(n), notLast, notLast);
        dueChange(n, "true everywhere", revise, Sets.of(0, last(n)), Sets.all(n), Sets.of(0, last(n)));
    }

    private static void reviseOfEmptyBelief(int n) {
        DUE.sentence("Promise 8", n, "(So an empty belief becomes all worlds at which F is true");
        ToIntFunction<BeliefBase> revise = x -> x.revise(0);
        dueChange(n, "true at two", revise, 0, Sets.of(0, last(n)), Sets.of(0, last(n)));
        dueChange(n, "true at one", revise, 0, Sets.of(last(n)), Sets.of(last(n)));
        dueChange(n, "true everywhere", revise, 0, Sets.all(n), Sets.all(n));
        dueChange(n, "true at all but one", revise, 0, Sets.all(n) & ~Sets.of(1), Sets.all(n) & ~Sets.of(1));
    }

    private static void reviseByTrueNowhere(int n) {
        DUE.sentence("Promise 8", n, "if F is true nowhere the belief becomes empty.)");
        ToIntFunction<BeliefBase> revise = x -> x.revise(0);
        dueChange(n, "one world", revise, Sets.of(0), 0, 0);
        dueChange(n, "all worlds", revise, Sets.all(n), 0, 0);
        dueChange(n, "an empty belief", revise, 0, 0, 0);
    }

    private static void updateOfEmptyBelief(int n) {
        DUE.sentence("Promise 9", n, "for which the belief (as it was) holds some world w");
        ToIntFunction<BeliefBase> update = x -> x.update(0);
        dueChange(n, "an empty belief", update, 0, Sets.of(0, last(n)), 0);
        dueChange(n, "an empty belief, true everywhere", update, 0, Sets.all(n), 0);
        dueChange(n, "an empty belief, true nowhere", update, 0, 0, 0);
        dueChange(n, "all worlds", update, Sets.all(n), Sets.of(0, last(n)), Sets.of(0, last(n)));
    }

    private static void updateByTrueNowhere(int n) {
        DUE.sentence("Promise 9", n, "The belief becomes the set of those worlds u at which F is true");
        ToIntFunction<BeliefBase> update = x -> x.update(0);
        dueChange(n, "true nowhere", update, Sets.of(0, last(n)), 0, 0);
        dueChange(n, "true nowhere, all worlds", update, Sets.all(n), 0, 0);
        dueChange(n, "true everywhere", update, Sets.of(0, last(n)), Sets.all(n), Sets.of(0, last(n)));
        dueChange(n, "true everywhere, all worlds", update, Sets.all(n), Sets.all(n), Sets.all(n));
    }

    private static void updateByProperParts(int n) {
        DUE.sentence("Promise 9", n, "whose difference from w is a proper part of the difference of u and w");
        ToIntFunction<BeliefBase> update = x -> x.update(0);
        long notLast = Sets.all(n) & ~Sets.of(last(n));
        dueChange(n, "no part of itself", update, Sets.of(0), Sets.of(last(n)), Sets.of(last(n)));
        dueChange(n, "the empty part", update, Sets.of(0), Sets.of(0, last(n)), Sets.of(0));
        dueChange(n, "single variables", update, Sets.of(0), Sets.all(n) & ~Sets.of(0), Sets.around(n, 0));
        dueChange(n, "all but one variable", update, Sets.of(0), Sets.around(n, last(n)), Sets.around(n, last(n)));
        dueChange(n, "from the last world", update, Sets.of(last(n)), notLast, Sets.around(n, last(n)));
        dueChange(n, "both ends, each by itself", update,
            Sets.of(0, last(n)), notLast, Sets.of(0) | Sets.around(n, last(n)));
    }

    private static void giveUpOfEmptyBelief(int n) {
        DUE.sentence("Promise 10", n, "If F is true at every world of the belief");
        ToIntFunction<BeliefBase> giveUp = x -> x.giveUp(0);
        long all = Sets.all(n);
        dueChange(n, "an empty belief", giveUp, 0, Sets.of(0, last(n)), all & ~Sets.of(0, last(n)));
        dueChange(n, "an empty belief, true nowhere", giveUp, 0, 0, all);
        dueChange(n, "an empty belief, false at one", giveUp, 0, all & ~Sets.of(last(n)), Sets.of(last(n)));
    }

    private static void giveUpOfTrueEverywhere(int n) {
        DUE.sentence("Promise 10", n, "those worlds join the belief at which F is false");
        ToIntFunction<BeliefBase> giveUp = x -> x.giveUp(0);
        dueChange(n, "true everywhere", giveUp, Sets.of(0, last(n)), Sets.all(n), Sets.of(0, last(n)));
        dueChange(n, "true everywhere, all worlds", giveUp, Sets.all(n), Sets.all(n), Sets.all(n));
        dueChange(n, "true everywhere, an empty belief", giveUp, 0, Sets.all(n), 0);
    }

    private static void giveUpTakesTheNearest(int n) {
        DUE.sentence("Promise 10", n, "whose distance from the belief (as it was) is least");
        ToIntFunction<BeliefBase> giveUp = x -> x.giveUp(0);
        long notLast = Sets.all(n) & ~Sets.of(last(n));
        dueChange(n, "the whole way", giveUp, Sets.of(0), notLast, Sets.of(0, last(n)));
        dueChange(n, "one step", giveUp, Sets.of(0), Sets.of(0), Sets.of(0) | Sets.around(n, 0));
        dueChange(n, "all worlds but the last", giveUp, notLast, notLast, Sets.all(n));
    }

    private static void giveUpOfNotBelieved(int n) {
        DUE.sentence("Promise 10", n, "otherwise the belief stays as it is (F is taken off all the same)");
        ToIntFunction<BeliefBase> giveUp = x -> x.giveUp(0);
        long ends = Sets.of(0, last(n));
        dueChange(n, "true nowhere", giveUp, ends, 0, ends);
        dueChange(n, "true at one of two", giveUp, ends, Sets.of(0, 1), ends);
        dueChange(n, "true at all but one of the belief", giveUp, ends, Sets.all(n) & ~Sets.of(last(n)), ends);
        dueChange(n, "all worlds", giveUp, Sets.all(n), Sets.all(n) & ~Sets.of(0), Sets.all(n));
        dueChange(n, "all worlds, true nowhere", giveUp, Sets.all(n), 0, Sets.all(n));
    }

    private static void dueForgotten(int n, int v, long belief, long due) {
        BeliefBase x = Sets.base(n, belief, Sets.of(1), 0);
        String told = "forget(0, " + v + ")";
        DUE.due(told, x.forget(0, v), Long.bitCount(due));
        DUE.dueWorlds(told, Sets.belief(x, 0), due);
        DUE.due(told + ", then count(1)", x.count(1), 1);
        DUE.due(told + ", then count(2)", x.count(2), 0);
    }

    private static void forgetJoins(int n) {
        DUE.sentence("Promise 11", n, "Every world that differs from a world of the belief in the value of v alone joins");
        for (int v = 0; v < n; v++) {
            int turned = 1 << v;
            dueForgotten(n, v, 0, 0);
            dueForgotten(n, v, Sets.all(n), Sets.all(n));
            dueForgotten(n, v, Sets.of(0), Sets.of(0, turned));
            dueForgotten(n, v, Sets.of(last(n)), Sets.of(last(n), last(n) - turned));
            dueForgotten(n, v, Sets.of(0, turned), Sets.of(0, turned));
            dueForgotten(n, v, Sets.all(n) & ~Sets.of(last(n)), Sets.all(n));
        }
    }

    private static void forgetOfNoBelief(int n) {
        DUE.sentence("Promise 11", n, "-1 if b is not good");
        BeliefBase x = State.made(n, 1);
        for (int b : Bad.beliefs()) {
            DUE.due("forget(" + b + ", 0)", x.forget(b, 0), -1);
            DUE.due("forget(" + b + ", n)", x.forget(b, n), -1);
        }
        DUE.due("then count(0)", x.count(0), 2);
    }

    private static void forgetOfNoVariable(int n) {
        DUE.sentence("Promise 11", n, "-2 if v is not good");
        for (int b = 0; b < 3; b++) {
            BeliefBase x = State.made(n, 1);
            for (int v : Bad.variables(n)) {
                DUE.due("forget(" + b + ", " + v + ")", x.forget(b, v), -2);
            }
            DUE.due("then count(" + b + ")", x.count(b), 2 - b);
        }
    }

    private static void forgetLeavesTheStack(int n) {
        DUE.sentence("Promise 11", n, "The stack stays as it is.");
        dueStackStays(n, "forget(1, 0)", x -> x.forget(1, 0));
    }

    /** A call after which belief 1 holds two worlds, however many formulas there are. */
    private static void dueStackStays(int n, String name, ToIntFunction<BeliefBase> call) {
        for (int depth : new int[] {0, 1, 8}) {
            BeliefBase x = State.made(n, depth);
            long top = Sets.top(x);
            DUE.due(name + " on " + depth, call.applyAsInt(x), 2);
            DUE.due(name + " on " + depth + ", then depth()", x.depth(), depth);
            DUE.dueWorlds(name + " on " + depth + ", then the top", Sets.top(x), top);
        }
    }

    private static void mergeOfEmptyBeliefs(int n) {
        DUE.sentence("Promise 12", n, "the sum of their distances from the beliefs a and b (as they were) is least");
        long ends = Sets.of(0, last(n));
        dueMerge(n, "a is empty", 0, Sets.of(last(n)), Sets.of(0, 1, 2), Sets.of(1, 2));
        dueMerge(n, "b is empty", Sets.of(last(n)), 0, Sets.of(0, 1, 2), Sets.of(1, 2));
        dueMerge(n, "both are empty", 0, 0, ends, ends);
        dueMerge(n, "both are empty, true everywhere", 0, 0, Sets.all(n), Sets.all(n));
        dueMerge(n, "a is empty, the whole way", 0, Sets.of(0), Sets.of(last(n)), Sets.of(last(n)));
        dueMerge(n, "the whole way from both", Sets.of(0), Sets.of(0), Sets.of(last(n)), Sets.of(last(n)));
        dueMerge(n, "opposite worlds", Sets.of(0), Sets.of(last(n)), Sets.all(n), Sets.all(n));
        dueMerge(n, "all worlds", Sets.all(n), Sets.all(n), ends, ends);
        dueMerge(n, "a holds all worlds", Sets.all(n), Sets.of(0), ends, Sets.of(0));
    }

    private static void mergeByTrueNowhere(int n) {
        DUE.sentence("Promise 12", n, "Belief b becomes the set of those worlds at which F is true");
        dueMerge(n, "true nowhere", Sets.of(0), Sets.of(last(n)), 0, 0);
        dueMerge(n, "true nowhere, all worlds", Sets.all(n), Sets.all(n), 0, 0);
        dueMerge(n, "true nowhere, both are empty", 0, 0, 0, 0);
    }

    private static void mergeOfTheSame(int n) {
        DUE.sentence("Promise 12", n, "a and b may be the same.");
        ToIntFunction<BeliefBase> merge = x -> x.merge(0, 0);
        long ends = Sets.of(0, last(n));
        dueChange(n, "the nearest", merge, Sets.of(last(n)), Sets.of(0, 1, 2), Sets.of(1, 2));
        dueChange(n, "the whole way", merge, Sets.of(0), Sets.of(last(n)), Sets.of(last(n)));
        dueChange(n, "an empty belief", merge, 0, ends, ends);
        dueChange(n, "all worlds", merge, Sets.all(n), ends, ends);
        dueChange(n, "true nowhere", merge, ends, 0, 0);
        for (int b = 0; b < 3; b++) {
            BeliefBase x = new BeliefBase(n);
            x.atom(0);
            DUE.due("merge(" + b + ", " + b + ")", x.merge(b, b), 1 << (n - 1));
            DUE.due("then count(" + b + ")", x.count(b), 1 << (n - 1));
        }
    }

    private static void mergeOfNoBelief(int n) {
        DUE.sentence("Promise 12", n, "-1 if a or b is not good");
        for (int depth : new int[] {0, 1, 8}) {
            BeliefBase x = State.made(n, depth);
            for (int bad : Bad.beliefs()) {
                for (int good = 0; good < 3; good++) {
                    DUE.due("merge(" + bad + ", " + good + ")", x.merge(bad, good), -1);
                    DUE.due("merge(" + good + ", " + bad + ")", x.merge(good, bad), -1);
                }
                DUE.due("merge(" + bad + ", " + bad + ")", x.merge(bad, bad), -1);
            }
            DUE.due("then depth()", x.depth(), depth);
        }
    }

    private static void mergeOnEmptyStack(int n) {
        DUE.sentence("Promise 12", n, "-2 if the stack is empty");
        for (int a = 0; a < 3; a++) {
            for (int b = 0; b < 3; b++) {
                BeliefBase x = State.made(n, 0);
                DUE.due("merge(" + a + ", " + b + ")", x.merge(a, b), -2);
                DUE.due("then depth()", x.depth(), 0);
                DUE.due("then count(" + b + ")", x.count(b), 2 - b);
            }
        }
    }

    private static void mergeAnswersB(int n) {
        DUE.sentence("Promise 12", n, "otherwise answers how many worlds belief b holds now");
        for (int a = 0; a < 3; a++) {
            for (int b = 0; b < 3; b++) {
                BeliefBase x = State.made(n, 0);
                Sets.push(x, n, Sets.of(1));
                DUE.due("merge(" + a + ", " + b + ")", x.merge(a, b), 1);
                for (int c = 0; c < 3; c++) {
                    DUE.due("then count(" + c + ")", x.count(c), c == b ? 1 : 2 - c);
                }
            }
        }
    }

    private static void copyOfAnyBelief(int n) {
        DUE.sentence("Promise 13", n, "Belief b becomes the same as belief a.");
        long[] beliefs = {0, Sets.all(n), Sets.of(0, last(n))};
        for (int a = 0; a < 3; a++) {
            for (int b = 0; b < 3; b++) {
                BeliefBase x = Sets.base(n, beliefs);
                String told = "copy(" + a + ", " + b + ")";
                DUE.due(told, x.copy(a, b), Long.bitCount(beliefs[a]));
                for (int c = 0; c < 3; c++) {
                    DUE.dueWorlds(told + ", then belief " + c, Sets.belief(x, c), beliefs[c == b ? a : c]);
                }
                if (a != b) {
                    x.copy(3 - a - b, a);
                    DUE.dueWorlds(told + ", the copy when belief a has changed", Sets.belief(x, b), beliefs[a]);
                }
            }
        }
    }

    private static void copyOfTheSame(int n) {
        DUE.sentence("Promise 13", n, "otherwise answers how many worlds belief b holds now");
        for (int b = 0; b < 3; b++) {
            BeliefBase x = State.made(n, 0);
            DUE.due("copy(" + b + ", " + b + ")", x.copy(b, b), 2 - b);
            DUE.due("then count(" + b + ")", x.count(b), 2 - b);
        }
    }

    private static void copyOfNoBelief(int n) {
        DUE.sentence("Promise 13", n, "-1 if a or b is not good");
        BeliefBase x = State.made(n, 1);
        for (int bad : Bad.beliefs()) {
            for (int good = 0; good < 3; good++) {
                DUE.due("copy(" + bad + ", " + good + ")", x.copy(bad, good), -1);
                DUE.due("copy(" + good + ", " + bad + ")", x.copy(good, bad), -1);
            }
            DUE.due("copy(" + bad + ", " + bad + ")", x.copy(bad, bad), -1);
        }
        for (int b = 0; b < 3; b++) {
            DUE.due("then count(" + b + ")", x.count(b), 2 - b);
        }
    }

    // Promise 13 names no F and no empty stack, so a copy needs no formula and takes none.
    private static void copyLeavesTheStack(int n) {
        DUE.sentence("Promise 13", n, "-1 if a or b is not good; otherwise answers");
        dueStackStays(n, "copy(0, 1)", x -> x.copy(0, 1));
    }
}
