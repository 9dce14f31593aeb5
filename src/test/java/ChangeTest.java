import java.util.function.ToIntFunction;

/** Promises 7 to 13: the calls that change a belief. Their boundary cases are in ChangeEdgeTest. */
public final class ChangeTest {
    private static final Due DUE = new Due();

    public static void main(String[] args) {
        expand();
        revise();
        update();
        updateIsNotRevise();
        giveUp();
        forget();
        merge();
        copy();
        DUE.end();
    }

    private static void change(
            String told, int n, ToIntFunction<BeliefBase> call, long belief, long formula, long due) {
        Change.due(DUE, told, n, call, belief, formula, due);
    }

    private static void expand() {
        ToIntFunction<BeliefBase> call = x -> x.expand(0);
        change("promise 7, some go", 3, call, Sets.of(1, 2, 5), Sets.of(2, 5, 7), Sets.of(2, 5));
        change("promise 7, none goes", 3, call, Sets.of(1, 2), Sets.of(1, 2, 3), Sets.of(1, 2));
        change("promise 7, all go", 3, call, Sets.of(1, 2), Sets.of(0, 3), 0);
        change("promise 7, the greatest world", 6, call, Sets.of(0, 63), Sets.of(62, 63), Sets.of(63));
        change("promise 7, two variables", 2, call, Sets.of(0, 3), Sets.of(1, 3), Sets.of(3));
    }

    private static void revise() {
        ToIntFunction<BeliefBase> call = x -> x.revise(0);
        change("promise 8, one step", 3, call, Sets.of(7), Sets.of(0, 2, 4, 6), Sets.of(6));
        change("promise 8, two nearest ones", 3, call, Sets.of(0), Sets.of(3, 5, 7), Sets.of(3, 5));
        change("promise 8, some are held already", 3, call, Sets.of(0, 1, 2), Sets.of(2, 3, 7), Sets.of(2));
        change("promise 8, nearest to any world of the belief", 3, call, Sets.of(0, 7), Sets.of(3, 5), Sets.of(3, 5));
        change("promise 8, far ones of six", 6, call, Sets.of(0), Sets.of(63, 62, 31), Sets.of(62, 31));
        change("promise 8, distance not number", 3, call, Sets.of(4), Sets.of(3, 0), Sets.of(0));
    }

    private static void update() {
        ToIntFunction<BeliefBase> call = x -> x.update(0);
        change("promise 9, each world by itself", 2, call, Sets.of(1, 2), Sets.of(1, 3), Sets.of(1, 3));
        change("promise 9, parts and not numbers of variables", 3, call, Sets.of(0), Sets.of(3, 4), Sets.of(3, 4));
        change("promise 9, a smaller part wins", 3, call, Sets.of(0), Sets.of(1, 3, 7), Sets.of(1));
        change("promise 9, a world where it is true stays", 3, call, Sets.of(5), Sets.all(3), Sets.of(5));
        change("promise 9, three parts of one size", 3, call, Sets.of(0), Sets.of(3, 5, 6, 7), Sets.of(3, 5, 6));
        change("promise 9, not from world 0", 3, call, Sets.of(7), Sets.of(4, 1, 0), Sets.of(4, 1));
        change("promise 9, least for one world of two", 3, call, Sets.of(0, 7), Sets.of(1, 3), Sets.of(1, 3));
        change("promise 9, to world 0", 3, call, Sets.of(7), Sets.of(0), Sets.of(0));
        change("promise 9, world 0 is nearer than any other", 3, call, Sets.of(0), Sets.of(0, 1, 6), Sets.of(0));
        change("promise 9, six variables", 6, call, Sets.of(0), Sets.of(7, 56, 63, 15), Sets.of(7, 56));
    }

    private static void updateIsNotRevise() {
        change("promise 8, beside update", 2, x -> x.revise(0), Sets.of(1, 2), Sets.of(1, 3), Sets.of(1));
        change("promise 8, beside update of parts", 3, x -> x.revise(0), Sets.of(0), Sets.of(3, 4), Sets.of(4));
    }

    private static void giveUp() {
        ToIntFunction<BeliefBase> call = x -> x.giveUp(0);
        change("promise 10, one joins", 3, call, Sets.of(7), Sets.of(1, 3, 5, 7), Sets.of(6, 7));
        change("promise 10, only the nearest join", 3, call, Sets.of(0), Sets.of(0, 1, 2, 4, 6), Sets.of(0, 3, 5));
        change("promise 10, not believed", 3, call, Sets.of(0, 1), Sets.of(1, 2, 3), Sets.of(0, 1));
        change("promise 10, believed nowhere", 3, call, Sets.of(0, 1), Sets.of(2, 3), Sets.of(0, 1));
        change("promise 10, two variables", 2, call, Sets.of(1), Sets.of(0, 1, 2), Sets.of(1, 3));
    }

    private static void forget() {
        long[][] cases = {
            {3, Sets.of(5), 1, Sets.of(5, 7)},
            {3, Sets.of(0, 7), 0, Sets.of(0, 1, 6, 7)},
            {3, Sets.of(2, 6), 2, Sets.of(2, 6)},
            {6, Sets.of(0, 63), 5, Sets.of(0, 32, 31, 63)},
            {2, Sets.of(3), 1, Sets.of(1, 3)}};
        for (long[] one : cases) {
            int n = (int) one[0];
            String told = "promise 11, n " + n + ", forget(0, " + one[2] + ")";
            BeliefBase x = Sets.base(n, one[1]);
            x.atom(1);
            DUE.due(told, x.forget(0, (int) one[2]), Long.bitCount(one[3]));
            DUE.dueWorlds(told, Sets.belief(x, 0), one[3]);
            DUE.due(told + ", then depth()", x.depth(), 1);
            DUE.due(told + ", then truth(2)", x.truth(2), 1);
            DUE.due(told + ", then truth(1)", x.truth(1), 0);
        }
    }

    private static void mergeCase(String told, int n, long a, long b, long formula, long due) {
        Change.dueMerge(DUE, told, n, a, b, formula, due);
    }

    private static void merge() {
        long all = Sets.all(3);
        mergeCase("promise 12, between two worlds", 3, Sets.of(0), Sets.of(3), all, Sets.of(0, 1, 2, 3));
        mergeCase("promise 12, opposite worlds", 3, Sets.of(0), Sets.of(7), all, all);
        mergeCase("promise 12, common worlds", 3, Sets.of(0, 1), Sets.of(1, 7), all, Sets.of(1));
        mergeCase("promise 12, not the worlds between", 3, Sets.of(0), Sets.of(3), Sets.of(4, 7, 5), Sets.of(4, 5, 7));
        mergeCase("promise 12, one nearer to both", 3, Sets.of(0), Sets.of(1), Sets.of(0, 6), Sets.of(0));
        mergeCase("promise 12, the sum over a near one", 4, Sets.of(0), Sets.of(0, 15), Sets.of(1, 7), Sets.of(1));
        mergeCase("promise 12, far away", 6, Sets.of(0), Sets.of(0), Sets.of(63), Sets.of(63));
        BeliefBase x = Sets.base(3, Sets.of(0));
        Sets.push(x, 3, Sets.of(1, 3, 7));
        DUE.due("promise 12, merge(0, 0)", x.merge(0, 0), 1);
        DUE.dueWorlds("promise 12, merge(0, 0)", Sets.belief(x, 0), Sets.of(1));
        Sets.push(x, 3, Sets.of(2, 3, 5));
        DUE.due("promise 12, merge(0, 0) again", x.merge(0, 0), 2);
        DUE.dueWorlds("promise 12, merge(0, 0) again", Sets.belief(x, 0), Sets.of(3, 5));
    }

    private static void copy() {
        BeliefBase x = Sets.base(3, Sets.of(1, 4), Sets.of(2), 0);
        x.atom(0);
        DUE.due("promise 13, copy(0, 1)", x.copy(0, 1), 2);
        DUE.dueWorlds("promise 13, copy(0, 1)", Sets.belief(x, 1), Sets.of(1, 4));
        DUE.dueWorlds("promise 13, the one copied", Sets.belief(x, 0), Sets.of(1, 4));
        DUE.due("promise 13, copy(0, 0)", x.copy(0, 0), 2);
        DUE.dueWorlds("promise 13, copy(0, 0)", Sets.belief(x, 0), Sets.of(1, 4));
        x.forget(0, 1);
        DUE.dueWorlds("promise 13, the copy when the one copied has changed", Sets.belief(x, 1), Sets.of(1, 4));
        DUE.due("promise 13, copy(2, 1), empty", x.copy(2, 1), 0);
        DUE.dueWorlds("promise 13, copy(2, 1)", Sets.belief(x, 1), 0);
        DUE.due("promise 13, copy(0, 2)", x.copy(0, 2), 4);
        DUE.dueWorlds("promise 13, copy(0, 2)", Sets.belief(x, 2), Sets.of(1, 3, 4, 6));
        DUE.due("promise 13, depth() stays", x.depth(), 1);
    }
}
