import java.util.function.ToIntFunction;

/** What is due of one change, whichever call makes it. */
final class Change {
    private Change() {
    }

    /** A change of belief 0 while the two others hold all worlds. */
    static void due(
            Due due, String told, int n, ToIntFunction<BeliefBase> call, long belief, long formula, long becomes) {
        BeliefBase x = made(n, formula, belief);
        String of = told + ", n " + n;
        due.due(of, call.applyAsInt(x), Long.bitCount(becomes));
        dueAfter(due, of, x, becomes, Sets.all(n), Sets.all(n));
    }

    /** A merge of belief 0 into belief 1 while belief 2 holds world 2 alone. */
    static void dueMerge(Due due, String told, int n, long a, long b, long formula, long becomes) {
        BeliefBase x = made(n, formula, a, b, Sets.of(2));
        String of = told + ", n " + n + ", merge(0, 1)";
        due.due(of, x.merge(0, 1), Long.bitCount(becomes));
        dueAfter(due, of, x, a, becomes, Sets.of(2));
    }

    // Under the formula there is another one, so that it can be seen that just the top one goes.
    private static BeliefBase made(int n, long formula, long... beliefs) {
        BeliefBase x = Sets.base(n, beliefs);
        x.atom(1);
        Sets.push(x, n, formula);
        return x;
    }

    private static void dueAfter(Due due, String told, BeliefBase x, long... beliefs) {
        for (int b = 0; b < beliefs.length; b++) {
            due.dueWorlds(told + ", then belief " + b, Sets.belief(x, b), beliefs[b]);
            due.due(told + ", then count(" + b + ")", x.count(b), Long.bitCount(beliefs[b]));
        }
        due.due(told + ", then depth()", x.depth(), 1);
        due.due(told + ", then truth(2) of the formula under it", x.truth(2), 1);
        due.due(told + ", then truth(1) of the formula under it", x.truth(1), 0);
    }
}
