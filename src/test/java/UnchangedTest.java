import java.util.ArrayList;
import java.util.LinkedHashMap;
import java.util.List;
import java.util.Map;
import java.util.function.ToIntFunction;

/** What 'Terms' says of questions and of refused calls: every one of them, in several states, changes nothing. */
public final class UnchangedTest {
    private static final Due DUE = new Due();
    private static final int[] BELIEFS = {0, 1, 2};
    private static final int[] KINDS = {
        BeliefBase.NOT, BeliefBase.AND, BeliefBase.OR, BeliefBase.XOR, BeliefBase.IMPLIES};

    public static void main(String[] args) {
        for (int n = 2; n <= 6; n++) {
            questionsLeaveTheStack(n);
            questionsChangeNothing(n);
            refusedCallsChangeNothing(n);
        }
        DUE.end();
    }

    /** Every question, with arguments that are good and with such that are not. */
    private static Map<String, ToIntFunction<BeliefBase>> questions(int n) {
        int last = (1 << n) - 1;
        Map<String, ToIntFunction<BeliefBase>> calls = new LinkedHashMap<>();
        calls.put("depth()", BeliefBase::depth);
        for (int w : new int[] {0, last, -1, last + 1}) {
            calls.put("truth(" + w + ")", x -> x.truth(w));
        }
        for (int b : new int[] {0, 1, 2, 3, -1}) {
            calls.put("count(" + b + ")", x -> x.count(b));
            calls.put("entails(" + b + ")", x -> x.entails(b));
            calls.put("primes(" + b + ")", x -> x.primes(b));
            for (int w : new int[] {0, last, -1, last + 1}) {
                calls.put("holds(" + b + ", " + w + ")", x -> x.holds(b, w));
                calls.put("next(" + b + ", " + w + ")", x -> x.next(b, w));
            }
            for (int a : new int[] {0, 1, 2, 3, -1}) {
                calls.put("distance(" + a + ", " + b + ")", x -> x.distance(a, b));
                calls.put("reach(" + a + ", " + b + ")", x -> x.reach(a, b));
            }
            for (int v : new int[] {0, n - 1, n, -1}) {
                calls.put("matters(" + b + ", " + v + ")", x -> x.matters(b, v));
                for (int set : new int[] {0, last, last + 1}) {
                    calls.put("defined(" + b + ", " + v + ", " + set + ")", x -> x.defined(b, v, set));
                }
            }
        }
        return calls;
    }

    private static void questionsLeaveTheStack(int n) {
        DUE.sentence("Terms", n, "Questions leave the stack as it is.");
        questions(n).forEach((name, question) -> {
            BeliefBase empty = State.made(n, 0);
            question.applyAsInt(empty);
            DUE.due(name + " with an empty stack, then depth()", empty.depth(), 0);
            BeliefBase full = State.made(n, 8);
            question.applyAsInt(full);
            DUE.due(name + " with a full stack, then depth()", full.depth(), 8);
            DUE.dueWorlds(name + ", then the top", Sets.top(full), Sets.all(n) & ~Sets.of(1));
        });
    }

    private static void questionsChangeNothing(int n) {
        DUE.sentence("Terms", n, "No question changes anything.");
        for (int depth : new int[] {0, 1, 8}) {
            questions(n).forEach((name, question) -> dueUnchanged(n, depth, name, question));
        }
    }

    private static void dueUnchanged(int n, int depth, String name, ToIntFunction<BeliefBase> call) {
        String told = "depth " + depth + ", " + name;
        State.dueUnchanged(DUE, told, () -> State.made(n, depth), call::applyAsInt);
    }

    /** The calls that are no questions, each with a number that is not good. */
    private static List<Call> refusedForTheNumbers(int n) {
        List<Call> calls = new ArrayList<>();
        for (int bad : Bad.beliefs()) {
            calls.add(new Call("quote(" + bad + ")", -1, x -> x.quote(bad)));
            calls.add(new Call("forget(" + bad + ", 0)", -1, x -> x.forget(bad, 0)));
            calls.addAll(Call.changes(bad, -1));
            for (int b : BELIEFS) {
                calls.add(new Call("merge(" + bad + ", " + b + ")", -1, x -> x.merge(bad, b)));
                calls.add(new Call("merge(" + b + ", " + bad + ")", -1, x -> x.merge(b, bad)));
                calls.add(new Call("copy(" + bad + ", " + b + ")", -1, x -> x.copy(bad, b)));
                calls.add(new Call("copy(" + b + ", " + bad + ")", -1, x -> x.copy(b, bad)));
            }
        }
        for (int bad : Bad.variables(n)) {
            calls.add(new Call("atom(" + bad + ")", -1, x -> x.atom(bad)));
            for (int b : BELIEFS) {
                calls.add(new Call("forget(" + b + ", " + bad + ")", -2, x -> x.forget(b, bad)));
            }
        }
        for (int bad : Bad.kinds()) {
            calls.add(new Call("connect(" + bad + ")", -1, x -> x.connect(bad)));
        }
        return calls;
    }

    /** The calls that are no questions and that too few or too many formulas forbid. */
    private static List<Call> refusedForTheDepth(int n, int depth) {
        List<Call> calls = new ArrayList<>();
        for (int kind : KINDS) {
            if (depth == 0 || depth == 1 && kind != BeliefBase.NOT) {
                calls.add(new Call("connect(" + kind + ")", -2, x -> x.connect(kind)));
            }
        }
        for (int b : BELIEFS) {
            if (depth == 0) {
                calls.addAll(Call.changes(b, -2));
                calls.add(new Call("merge(0, " + b + ")", -2, x -> x.merge(0, b)));
            }
            if (depth == State.MOST_FORMULAS) {
                calls.add(new Call("quote(" + b + ")", -2, x -> x.quote(b)));
                calls.add(new Call("atom(" + b % n + ")", -2, x -> x.atom(b % n)));
            }
        }
        return calls;
    }

    private static void refusedCallsChangeNothing(int n) {
        DUE.sentence("Terms", n, "A refused call changes nothing.");
        for (int depth : new int[] {0, 1, 2, 8}) {
            List<Call> calls = refusedForTheNumbers(n);
            calls.addAll(refusedForTheDepth(n, depth));
            for (Call call : calls) {
                String told = "depth " + depth + ", " + call.name();
                DUE.due(told, call.of(State.made(n, depth)), call.due());
                dueUnchanged(n, depth, call.name(), call.made());
            }
        }
    }
}
