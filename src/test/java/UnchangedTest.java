import java.util.ArrayList;
import java.util.LinkedHashMap;
import java.util.List;
import java.util.Map;
import java.util.function.ToIntFunction;

/** What 'Terms' says of questions and of refused calls: every one of them, in several states, changes nothing. */
public final class UnchangedTest {
    private static final Due DUE = new Due();

    public static void main(String[] args) {
        for (int n = 2; n <= 6; n++) {
            questionsLeaveTheStack(n);
            questionsChangeNothing(n);
            refusedCallsChangeNothing(n);
        }
        DUE.end();
    }

    /** Every question, with arguments that are good and with such that are not. */
    private static Map<String, ToIntFunction<BeliefBase>> questions(int n) {
        int last = (1 << n) - 1;
        Map<String, ToIntFunction<BeliefBase>> calls = new LinkedHashMap<>();
        calls.put("depth()", BeliefBase::depth);
        for (int w : new int[] {0, last, -1, last + 1}) {
            calls.put("truth(" + w + ")", x -> x.truth(w));
        }
        for (int b : new int[] {0, 1, 2, 3, -1}) {
            calls.put("count(" + b + ")", x -> x.count(b));
            calls.put("entails(" + b + ")", x -> x.entails(b));
            calls.put("primes(" + b + ")", x -> x.primes(b));
            for (int w : new int[] {0, last, -1, last + 1}) {
                calls.put("holds(" + b + ", " + w + ")", x -> x.holds(b, w));
                calls.put("next(" + b + ", " + w + ")", x -> x.next(b, w));
            }
            for (int a : new int[] {0, 1, 2, 3, -1}) {
                calls.put("distance(" + a + ", " + b + ")", x -> x.distance(a, b));
                calls.put("reach(" + a + ", " + b + ")", x -> x.reach(a, b));
            }
            for (int v : new int[] {0, n - 1, n, -1}) {
                calls.put("matters(" + b + ", " + v + ")", x -> x.matters(b, v));
                for (int set : new int[] {0, last, last + 1}) {
                    calls.put("defined(" + b + ", " + v + ", " + set + ")", x -> x.defined(b, v, set));
                }
            }
        }
        return calls;
    }

    private static void questionsLeaveTheStack(int n) {
        DUE.sentence("Terms", n, "Questions leave the stack as it is.");
        Map<String, ToIntFunction<BeliefBase>> questions = questions(n);
        for (String question : questions.keySet()) {
            String told = question;
            BeliefBase empty = State.made(n, 0);
            questions.get(question).applyAsInt(empty);
            DUE.due(told + " with an empty stack, then depth()", empty.depth(), 0);
            BeliefBase full = State.made(n, 8);
            questions.get(question).applyAsInt(full);
            DUE.due(told + " with a full stack, then depth()", full.depth(), 8);
            DUE.dueWorlds(told + ", then the top", Sets.top(full), Sets.all(n) & ~Sets.of(1));
        }
    }

    private static void questionsChangeNothing(int n) {
        DUE.sentence("Terms", n, "No question changes anything.");
        for (int depth : new int[] {0, 1, 8}) {
            Map<String, ToIntFunction<BeliefBase>> questions = questions(n);
            for (String question : questions.keySet()) {
                dueUnchanged(n, depth, question, questions.get(question));
            }
        }
    }

    private static void dueUnchanged(int n, int depth, String name, ToIntFunction<BeliefBase> call) {
        String told = "depth " + depth + ", " + name;
        State.dueUnchanged(DUE, told, () -> State.made(n, depth), call::applyAsInt);
    }

    /** The calls that are no questions, each with arguments and a depth at which it is refused. */
    private static List<Call> refusedAt(int n, int depth) {
        List<Call> calls = new ArrayList<>();
        for (int bad : new int[] {-1, 6, Integer.MIN_VALUE, Integer.MAX_VALUE}) {
            calls.add(new Call("atom(" + bad + ")", -1, x -> x.atom(bad)));
            calls.add(new Call("quote(" + bad + ")", -1, x -> x.quote(bad)));
            calls.add(new Call("connect(" + bad + ")", -1, x -> x.connect(bad)));
            calls.addAll(Call.changes(bad, -1));
            for (int b = 0; b < 3; b++) {
                int it = b;
                calls.add(new Call("merge(" + bad + ", " + b + ")", -1, x -> x.merge(bad, it)));
                calls.add(new Call("merge(" + b + ", " + bad + ")", -1, x -> x.merge(it, bad)));
                calls.add(new Call("copy(" + bad + ", " + b + ")", -1, x -> x.copy(bad, it)));
                calls.add(new Call("copy(" + b + ", " + bad + ")", -1, x -> x.copy(it, bad)));
                calls.add(new Call("forget(" + b + ", " + bad + ")", -2, x -> x.forget(it, bad)));
            }
            calls.add(new Call("forget(" + bad + ", 0)", -1, x -> x.forget(bad, 0)));
        }
        calls.add(new Call("atom(n)", -1, x -> x.atom(n)));
        calls.add(new Call("quote(3)", -1, x -> x.quote(3)));
        calls.add(new Call("connect(5)", -1, x -> x.connect(5)));
        calls.addAll(Call.changes(3, -1));
        calls.add(new Call("merge(3, 0)", -1, x -> x.merge(3, 0)));
        calls.add(new Call("merge(0, 3)", -1, x -> x.merge(0, 3)));
        calls.add(new Call("copy(3, 0)", -1, x -> x.copy(3, 0)));
        calls.add(new Call("copy(0, 3)", -1, x -> x.copy(0, 3)));
        calls.add(new Call("forget(3, 0)", -1, x -> x.forget(3, 0)));
        calls.add(new Call("forget(0, n)", -2, x -> x.forget(0, n)));
        calls.addAll(refusedForTheDepth(depth));
        return calls;
    }

    private static List<Call> refusedForTheDepth(int depth) {
        List<Call> calls = new ArrayList<>();
        for (int kind = BeliefBase.NOT; kind <= BeliefBase.IMPLIES; kind++) {
            int it = kind;
            if (depth == 0 || depth == 1 && kind != BeliefBase.NOT) {
                calls.add(new Call("connect(" + kind + ")", -2, x -> x.connect(it)));
            }
        }
        for (int b = 0; b < 3; b++) {
            int it = b;
            if (depth == 0) {
                calls.addAll(Call.changes(b, -2));
                calls.add(new Call("merge(0, " + b + ")", -2, x -> x.merge(0, it)));
            }
            if (depth == State.MOST_FORMULAS) {
                calls.add(new Call("quote(" + b + ")", -2, x -> x.quote(it)));
            }
        }
        if (depth == State.MOST_FORMULAS) {
            calls.add(new Call("atom(1)", -2, x -> x.atom(1)));
        }
        return calls;
    }

    private static void refusedCallsChangeNothing(int n) {
        DUE.sentence("Terms", n, "A refused call changes nothing.");
        for (int depth : new int[] {0, 1, 2, 8}) {
            for (Call call : refusedAt(n, depth)) {
                String told = "depth " + depth + ", " + call.name();
                DUE.due(told, call.of(State.made(n, depth)), call.due());
                dueUnchanged(n, depth, call.name(), call.made());
            }
        }
    }
}
