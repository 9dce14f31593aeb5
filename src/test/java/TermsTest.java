import java.util.ArrayList;
import java.util.List;

/**
 * What the document says in 'What it is' and 'Terms', a sentence at a time, for every number of variables; but what
 * changes nothing is in UnchangedTest.
 */
public final class TermsTest {
    private static final Due DUE = new Due();
    private static final int MOST_CALLS = 512;

    public static void main(String[] args) {
        for (int n = 2; n <= 6; n++) {
            fiveHundredTwelveCalls(n);
            numbersOfWorlds(n);
            threeBeliefs(n);
            beliefsBecomeEmpty(n);
            stackOfEight(n);
            distanceOfWorlds(n);
            distanceFromTheEmptyBelief(n);
            changesTakeTheTop(n);
            testsInTheirOrder(n);
            goodBeliefs(n);
            goodVariables(n);
        }
        DUE.end();
    }

    private static void fiveHundredTwelveCalls(int n) {
        DUE.sentence("What it is", n, "An object is used for at most 512 calls after it has been made");
        List<Call> round = roundOfCalls(n);
        BeliefBase x = new BeliefBase(n);
        for (int i = 0; i < MOST_CALLS; i++) {
            Call call = round.get(i % round.size());
            DUE.due("call " + (i + 1) + ", " + call.name(), call.of(x), call.due());
        }
        // What later calls answer is free, but the language rules let none of them throw.
        for (int i = 0; i < MOST_CALLS; i++) {
            x.atom(0);
            x.connect(i % 5);
            x.revise(i % 3);
        }
    }

    /** Sixteen calls after which the object is as it was when new. */
    private static List<Call> roundOfCalls(int n) {
        int all = 1 << n;
        return List.of(
            new Call("atom(0)", 1, x -> x.atom(0)),
            new Call("atom(1)", 2, x -> x.atom(1)),
            new Call("connect(XOR)", 1, x -> x.connect(BeliefBase.XOR)),
            new Call("revise(0)", all / 2, x -> x.revise(0)),
            new Call("atom(0)", 1, x -> x.atom(0)),
            new Call("connect(NOT)", 1, x -> x.connect(BeliefBase.NOT)),
            new Call("expand(0)", all / 4, x -> x.expand(0)),
            new Call("forget(0, 0)", all / 2, x -> x.forget(0, 0)),
            new Call("forget(0, 1)", all, x -> x.forget(0, 1)),
            new Call("quote(0)", 1, x -> x.quote(0)),
            new Call("entails(0)", 1, x -> x.entails(0)),
            new Call("giveUp(0)", all, x -> x.giveUp(0)),
            new Call("copy(0, 1)", all, x -> x.copy(0, 1)),
            new Call("next(1, 2^n - 2)", all - 1, x -> x.next(1, all - 2)),
            new Call("count(2)", all, x -> x.count(2)),
            new Call("depth()", 0, BeliefBase::depth));
    }

    private static void numbersOfWorlds(int n) {
        DUE.sentence("Terms", n, "its number is the sum of value(v) * 2^v, so worlds are 0 .. 2^n - 1");
        int last = (1 << n) - 1;
        for (int v = 0; v < n; v++) {
            BeliefBase x = new BeliefBase(n);
            x.atom(v);
            String told = "atom(" + v + "), ";
            DUE.due(told + "truth(0)", x.truth(0), 0);
            DUE.due(told + "truth(2^n - 1)", x.truth(last), 1);
            for (int u = 0; u < n; u++) {
                DUE.due(told + "truth(2^" + u + ")", x.truth(1 << u), u == v ? 1 : 0);
            }
        }
        BeliefBase x = new BeliefBase(n);
        DUE.due("next(0, -1) of all worlds", x.next(0, -1), 0);
        DUE.due("next(0, 2^n - 2) of all worlds", x.next(0, last - 1), last);
        DUE.due("next(0, 2^n - 1) of all worlds", x.next(0, last), -2);
    }

    private static void threeBeliefs(int n) {
        DUE.sentence("Terms", n, "there are three, numbered 0, 1, 2; at first each holds all worlds");
        BeliefBase x = new BeliefBase(n);
        for (int b = 0; b < 3; b++) {
            DUE.due("count(" + b + ")", x.count(b), 1 << n);
            DUE.dueWorlds("belief " + b, Sets.belief(x, b), Sets.all(n));
        }
        DUE.due("count(3)", x.count(3), -1);
        BeliefBase y = Sets.base(n, Sets.of(1), Sets.of(0, 2), Sets.of(0, 1, 3));
        DUE.dueWorlds("three changed, belief 0", Sets.belief(y, 0), Sets.of(1));
        DUE.dueWorlds("three changed, belief 1", Sets.belief(y, 1), Sets.of(0, 2));
        DUE.dueWorlds("three changed, belief 2", Sets.belief(y, 2), Sets.of(0, 1, 3));
    }

    private static void beliefsBecomeEmpty(int n) {
        DUE.sentence("Terms", n, "A belief may become empty.");
        for (int b = 0; b < 3; b++) {
            int it = b;
            becomesEmpty(n, b, new Call("expand", 0, x -> x.expand(it)));
            becomesEmpty(n, b, new Call("revise", 0, x -> x.revise(it)));
            becomesEmpty(n, b, new Call("update", 0, x -> x.update(it)));
            becomesEmpty(n, b, new Call("merge", 0, x -> x.merge((it + 1) % 3, it)));
        }
    }

    private static void becomesEmpty(int n, int b, Call call) {
        BeliefBase x = new BeliefBase(n);
        String told = call.name() + " of belief " + b;
        Sets.push(x, n, 0);
        DUE.due(told, call.of(x), 0);
        DUE.due(told + ", then count", x.count(b), 0);
        DUE.due(told + ", then next", x.next(b, -1), -2);
        DUE.dueWorlds(told + ", then the belief", Sets.belief(x, b), 0);
        DUE.due(told + ", then count of another", x.count((b + 1) % 3), 1 << n);
        DUE.due(told + ", then count of a third", x.count((b + 2) % 3), 1 << n);
        DUE.due(told + ", then forget", x.forget(b, 0), 0);
        x.atom(n - 1);
        DUE.due(told + ", then revise by an atom", x.revise(b), 1 << (n - 1));
    }

    private static void stackOfEight(int n) {
        DUE.sentence("Terms", n, "Formulas are made on a stack of at most 8.");
        BeliefBase x = State.made(n, 7);
        DUE.due("the eighth formula", x.quote(1), 8);
        DUE.due("a ninth by atom", x.atom(0), -2);
        DUE.due("a ninth by quote", x.quote(0), -2);
        DUE.due("then depth()", x.depth(), 8);
        for (int left = 7; left >= 0; left--) {
            x.expand(2);
            DUE.due("depth() on the way down", x.depth(), left);
        }
        DUE.due("one more off", x.expand(2), -2);
        DUE.due("then depth()", x.depth(), 0);
        DUE.due("a formula on the emptied stack", x.atom(0), 1);
    }

    private static void distanceOfWorlds(int n) {
        DUE.sentence("Terms", n, "The DISTANCE of two worlds is the number of variables whose values differ in them.");
        for (int w = 0; w < 1 << n; w++) {
            int opposite = (1 << n) - 1 - w;
            int[] apart = {0, n, Integer.bitCount(w)};
            BeliefBase x = Sets.base(n, Sets.of(w), Sets.of(opposite), Sets.of(0));
            for (int b = 0; b < 3; b++) {
                DUE.due("world " + w + ", distance(0, " + b + ")", x.distance(0, b), apart[b]);
                DUE.due("world " + w + ", reach(0, " + b + ")", x.reach(0, b), apart[b]);
            }
        }
    }

    // That it is n + 1 and no other number can't be seen: what can be seen is that no world is nearer than another one.
    private static void distanceFromTheEmptyBelief(int n) {
        DUE.sentence("Terms", n, "from the empty belief it is n + 1");
        int last = (1 << n) - 1;
        long far = Sets.of(0, 1, last);
        Change.due(DUE, "revise", n, x -> x.revise(0), 0, far, far);
        Change.due(DUE, "giveUp", n, x -> x.giveUp(0), 0, far, Sets.all(n) & ~far);
        Change.due(DUE, "merge of it with itself", n, x -> x.merge(0, 0), 0, far, far);
        for (int b = 0; b <= 1; b++) {
            BeliefBase x = b == 0 ? Sets.base(n, Sets.of(last), 0, 0) : Sets.base(n, 0, Sets.of(last), 0);
            Sets.push(x, n, Sets.of(0, 1, 2));
            String told = "merge(" + (1 - b) + ", " + b + ")";
            DUE.due(told, x.merge(1 - b, b), 2);
            DUE.dueWorlds(told + ": the other belief decides", Sets.belief(x, b), Sets.of(1, 2));
        }
    }

    private static void changesTakeTheTop(int n) {
        DUE.sentence("Terms", n, "Calls that change a belief take the TOP formula off the stack (the one made last)");
        long all = Sets.all(n);
        Change.due(DUE, "expand", n, x -> x.expand(0), all, Sets.of(1), Sets.of(1));
        Change.due(DUE, "revise", n, x -> x.revise(0), all, Sets.of(1), Sets.of(1));
        Change.due(DUE, "update", n, x -> x.update(0), all, Sets.of(1), Sets.of(1));
        Change.due(DUE, "giveUp", n, x -> x.giveUp(0), Sets.of(1), Sets.of(1), Sets.of(1) | Sets.around(n, 1));
        Change.due(DUE, "merge", n, x -> x.merge(1, 0), all, Sets.of(1), Sets.of(1));
        BeliefBase x = State.made(n, 8);
        x.expand(2);
        DUE.dueWorlds("the seventh of eight", Sets.top(x), Sets.of(1));
    }

    private static void testsInTheirOrder(int n) {
        DUE.sentence("Terms", n, "In every method the tests are made in the order named");
        int worlds = 1 << n;
        // With nothing on the stack, and belief 2 empty.
        List<Call> none = new ArrayList<>(List.of(
            new Call("connect(5)", -1, x -> x.connect(5)),
            new Call("connect(-1)", -1, x -> x.connect(-1)),
            new Call("truth(2^n)", -1, x -> x.truth(worlds)),
            new Call("truth(-1)", -1, x -> x.truth(-1)),
            new Call("merge(0, 3)", -1, x -> x.merge(0, 3)),
            new Call("merge(3, 0)", -1, x -> x.merge(3, 0)),
            new Call("entails(3)", -1, x -> x.entails(3)),
            new Call("entails(-1)", -1, x -> x.entails(-1)),
            new Call("forget(3, n)", -1, x -> x.forget(3, n)),
            new Call("holds(3, 2^n)", -1, x -> x.holds(3, worlds)),
            new Call("next(3, 2^n - 1)", -1, x -> x.next(3, worlds - 1)),
            new Call("distance(2, 3)", -1, x -> x.distance(2, 3)),
            new Call("distance(3, 2)", -1, x -> x.distance(3, 2)),
            new Call("reach(2, 3)", -1, x -> x.reach(2, 3)),
            new Call("reach(3, 2)", -1, x -> x.reach(3, 2)),
            new Call("matters(3, n)", -1, x -> x.matters(3, n)),
            new Call("defined(3, n, 0)", -1, x -> x.defined(3, n, 0)),
            new Call("defined(3, 0, 2^n)", -1, x -> x.defined(3, 0, worlds)),
            new Call("defined(3, n, 2^n)", -1, x -> x.defined(3, n, worlds)),
            new Call("defined(0, n, 2^n)", -2, x -> x.defined(0, n, worlds))));
        none.addAll(Call.changes(3, -1));
        none.addAll(Call.changes(-1, -1));
        dueAll("an empty stack, ", State.made(n, 0), none);
        dueAll("a full stack, ", State.made(n, 8), List.of(
            new Call("atom(n)", -1, x -> x.atom(n)),
            new Call("atom(-1)", -1, x -> x.atom(-1)),
            new Call("quote(3)", -1, x -> x.quote(3)),
            new Call("quote(-1)", -1, x -> x.quote(-1))));
    }

    private static void dueAll(String told, BeliefBase x, List<Call> calls) {
        for (Call call : calls) {
            DUE.due(told + call.name(), call.of(x), call.due());
        }
    }

    private static void goodBeliefs(int n) {
        DUE.sentence("Terms", n, "a belief's number is good if it is 0, 1 or 2");
        BeliefBase x = new BeliefBase(n);
        for (int b = 0; b < 3; b++) {
            DUE.due("count(" + b + ")", x.count(b), 1 << n);
            DUE.due("quote(" + b + ")", x.quote(b), b + 1);
        }
        for (int b : Bad.beliefs()) {
            DUE.due("count(" + b + ")", x.count(b), -1);
            DUE.due("quote(" + b + ")", x.quote(b), -1);
        }
    }

    private static void goodVariables(int n) {
        DUE.sentence("Terms", n, "a variable's number is good if it is 0 .. n-1");
        BeliefBase x = new BeliefBase(n);
        for (int v = 0; v < n; v++) {
            DUE.due("matters(0, " + v + ")", x.matters(0, v), 0);
            DUE.due("atom(" + v + ")", x.atom(v), v + 1);
        }
        for (int v : Bad.variables(n)) {
            DUE.due("matters(0, " + v + ")", x.matters(0, v), -2);
            DUE.due("atom(" + v + ")", x.atom(v), -1);
        }
    }
}
