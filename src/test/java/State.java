import java.util.function.Consumer;
import java.util.function.Supplier;

/** All that can be seen of an object: the depth, the worlds of the beliefs, and the formulas down to the lowest. */
final class State {
    static final int MOST_FORMULAS = 8;

    private final int depth;
    private final int[] counts = new int[3];
    private final long[] beliefs = new long[3];
    private final long[] formulas = new long[MOST_FORMULAS];

    // Every look is at an object of its own, because all looks together need more than 512 calls.
    private State(Supplier<BeliefBase> object) {
        depth = object.get().depth();
        for (int b = 0; b < beliefs.length; b++) {
            counts[b] = object.get().count(b);
            beliefs[b] = Sets.belief(object.get(), b);
        }
        for (int i = 0; i < MOST_FORMULAS; i++) {
            BeliefBase x = object.get();
            for (int taken = 0; taken < i; taken++) {
                x.expand(0);
            }
            formulas[i] = Sets.top(x);
        }
    }

    /** Beliefs with two worlds, one and none, and as many formulas as asked for, no two of them the same. */
    static BeliefBase made(int n, int depth) {
        BeliefBase x = Sets.base(n, Sets.of(0, (1 << n) - 1), Sets.of(1), 0);
        for (int i = 0; i < depth; i++) {
            if (i < 4) {
                x.atom(i / 2);
            } else {
                x.quote(i / 2 - 2);
            }
            if (i % 2 == 1) {
                x.connect(BeliefBase.NOT);
            }
        }
        return x;
    }

    /** Compares what can be seen after the calls with what could be seen before them. */
    static void dueUnchanged(Due due, String told, Supplier<BeliefBase> made, Consumer<BeliefBase> calls) {
        State was = new State(made);
        State is = new State(() -> {
            BeliefBase x = made.get();
            calls.accept(x);
            return x;
        });
        due.due(told + ", then depth()", is.depth, was.depth);
        for (int b = 0; b < is.beliefs.length; b++) {
            due.due(told + ", then count(" + b + ")", is.counts[b], was.counts[b]);
            due.dueWorlds(told + ", then belief " + b, is.beliefs[b], was.beliefs[b]);
        }
        for (int i = 0; i < MOST_FORMULAS; i++) {
            due.dueWorlds(told + ", then the formula under " + i + " others", is.formulas[i], was.formulas[i]);
        }
    }
}
