import java.util.List;
import java.util.function.ToIntFunction;

/** One call with its arguments, and the answer that is due. */
record Call(String name, int due, ToIntFunction<BeliefBase> made) {
    /** The calls that take a formula off, each for the same belief. */
    static List<Call> changes(int b, int due) {
        return List.of(
            new Call("expand(" + b + ")", due, x -> x.expand(b)),
            new Call("revise(" + b + ")", due, x -> x.revise(b)),
            new Call("update(" + b + ")", due, x -> x.update(b)),
            new Call("giveUp(" + b + ")", due, x -> x.giveUp(b)),
            new Call("merge(" + b + ", " + b + ")", due, x -> x.merge(b, b)));
    }

    int of(BeliefBase x) {
        return made.applyAsInt(x);
    }
}
