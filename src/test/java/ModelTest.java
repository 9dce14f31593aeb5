/** All promises: the program beside the model, on every small case and on long runs from fixed seeds. */
public final class ModelTest {
    private static final int MOST_CALLS = 512;
    private static final Due DUE = new Due();

    private static long state = 1;

    public static void main(String[] args) {
        everyBeliefAndFormula(2);
        everyBeliefAndFormula(3);
        everyMergeOfTwoVariables();
        everyQuestion();
        for (int n = 3; n <= 6; n++) {
            someMergesAndChanges(n, n == 6 ? 150 : 400);
        }
        for (int n = 4; n <= 6; n++) {
            someQuestions(n, n == 6 ? 100 : 400);
        }
        for (int run = 0; run < 600; run++) {
            mixedRun(run);
        }
        DUE.end();
    }

    private static void everyBeliefAndFormula(int n) {
        long sets = 1L << (1 << n);
        for (long belief = 0; belief < sets; belief++) {
            for (long formula = 0; formula < sets; formula++) {
                for (int change = 0; change < 4; change++) {
                    compareChange(n, change, belief, formula);
                }
            }
        }
    }

    private static void compareChange(int n, int change, long belief, long formula) {
        BeliefBase x = Sets.base(n, belief);
        Sets.push(x, n, formula);
        Model m = Model.of(n, new long[] {belief}, formula);
        String call;
        int got;
        int want;
        switch (change) {
            case 0: call = "expand"; got = x.expand(0); want = m.expand(0); break;
            case 1: call = "revise"; got = x.revise(0); want = m.revise(0); break;
            case 2: call = "update"; got = x.update(0); want = m.update(0); break;
            default: call = "giveUp"; got = x.giveUp(0); want = m.giveUp(0); break;
        }
        String told = "n " + n + ", belief " + Long.toHexString(belief) + ", formula " + Long.toHexString(formula)
            + ": " + call;
        DUE.due(told, got, want);
        DUE.dueWorlds(told, Sets.belief(x, 0), m.belief(0));
        DUE.due(told + ", then depth()", x.depth(), 0);
    }

    private static void everyMergeOfTwoVariables() {
        for (long a = 0; a < 16; a++) {
            for (long b = 0; b < 16; b++) {
                for (long formula = 0; formula < 16; formula++) {
                    compareMerge(2, a, b, formula);
                }
            }
        }
    }

    private static void compareMerge(int n, long a, long b, long formula) {
        BeliefBase x = Sets.base(n, a, b);
        Sets.push(x, n, formula);
        Model m = Model.of(n, new long[] {a, b}, formula);
        String told = "n " + n + ", a " + Long.toHexString(a) + ", b " + Long.toHexString(b)
            + ", formula " + Long.toHexString(formula) + ": merge";
        DUE.due(told, x.merge(0, 1), m.merge(0, 1));
        DUE.due(told + ", then count(0)", x.count(0), m.count(0));
        DUE.dueWorlds(told, Sets.belief(x, 1), m.belief(1));
    }

    private static void everyQuestion() {
        for (int n = 2; n <= 3; n++) {
            long sets = 1L << (1 << n);
            for (long one = 0; one < sets; one++) {
                for (long other = 0; other < sets; other++) {
                    comparePair(n, one, other);
                }
                compareBelief(n, one);
            }
        }
        for (long set = 0; set < 1 << 16; set += 7) {
            compareBelief(4, set);
        }
    }

    private static void comparePair(int n, long one, long other) {
        BeliefBase x = Sets.base(n, one, other);
        x.quote(1);
        Model m = Model.of(n, new long[] {one, other}, other);
        String told = "n " + n + ", " + Long.toHexString(one) + " and " + Long.toHexString(other) + ": ";
        DUE.due(told + "distance(0, 1)", x.distance(0, 1), m.distance(0, 1));
        DUE.due(told + "reach(0, 1)", x.reach(0, 1), m.reach(0, 1));
        DUE.due(told + "reach(1, 0)", x.reach(1, 0), m.reach(1, 0));
        DUE.due(told + "entails(0)", x.entails(0), m.entails(0));
    }

    private static void compareBelief(int n, long set) {
        BeliefBase x = Sets.base(n, set);
        Model m = Model.of(n, new long[] {set});
        String told = "n " + n + ", belief " + Long.toHexString(set) + ": ";
        DUE.due(told + "count(0)", x.count(0), m.count(0));
        DUE.due(told + "primes(0)", x.primes(0), m.primes(0));
        for (int v = 0; v < n; v++) {
            DUE.due(told + "matters(0, " + v + ")", x.matters(0, v), m.matters(0, v));
            int known = random(1 << n);
            DUE.due(told + "defined(0, " + v + ", " + known + ")", x.defined(0, v, known), m.defined(0, v, known));
        }
        int after = random(1 << n) - 1;
        DUE.due(told + "next(0, " + after + ")", x.next(0, after), m.next(0, after));
        int v = random(n);
        DUE.due(told + "forget(0, " + v + ")", x.forget(0, v), m.forget(0, v));
        DUE.dueWorlds(told + "forget(0, " + v + ")", Sets.belief(x, 0), m.belief(0));
    }

    private static void someMergesAndChanges(int n, int times) {
        for (int i = 0; i < times; i++) {
            compareMerge(n, randomSet(n), randomSet(n), randomSet(n));
            compareChange(n, 1 + i % 3, randomSet(n), randomSet(n));
            long belief = randomSet(n);
            compareChange(n, 3, belief, belief | randomSet(n));
        }
    }

    private static void someQuestions(int n, int times) {
        for (int i = 0; i < times; i++) {
            comparePair(n, randomSet(n), randomSet(n));
            compareBelief(n, randomSet(n));
            compareBelief(n, ~randomSet(n) & Sets.all(n));
        }
    }

    /** Any calls in any order, good and wrong arguments mixed; at the end everything that can be seen is compared. */
    private static void mixedRun(int run) {
        int vars = random(8);
        BeliefBase x = new BeliefBase(vars);
        Model m = new Model(vars);
        int n = Math.max(2, Math.min(6, vars));
        int seen = 3 * (1 << n) + 8 + (1 << n);
        for (int i = 0; i < MOST_CALLS - seen; i++) {
            mixedCall("run " + run + ", call " + i + ": ", n, x, m);
        }
        for (int b = 0; b < 3; b++) {
            for (int w = 0; w < 1 << n; w++) {
                DUE.due("run " + run + " at its end: holds(" + b + ", " + w + ")", x.holds(b, w), m.holds(b, w));
            }
        }
        for (int w = 0; w < 1 << n; w++) {
            DUE.due("run " + run + " at its end: truth(" + w + ")", x.truth(w), m.truth(w));
        }
        DUE.due("run " + run + " at its end: depth()", x.depth(), m.depth());
    }

    private static void mixedCall(String told, int n, BeliefBase x, Model m) {
        int a = argument(3);
        int b = argument(3);
        int v = argument(n);
        int w = argument(1 << n);
        int kind = argument(5);
        switch (random(30)) {
            case 0: DUE.due(told + "depth()", x.depth(), m.depth()); break;
            case 1: DUE.due(told + "truth(" + w + ")", x.truth(w), m.truth(w)); break;
            case 2: DUE.due(told + "expand(" + b + ")", x.expand(b), m.expand(b)); break;
            case 3: DUE.due(told + "revise(" + b + ")", x.revise(b), m.revise(b)); break;
            case 4: DUE.due(told + "update(" + b + ")", x.update(b), m.update(b)); break;
            case 5: DUE.due(told + "giveUp(" + b + ")", x.giveUp(b), m.giveUp(b)); break;
            case 6: DUE.due(told + "forget(" + b + ", " + v + ")", x.forget(b, v), m.forget(b, v)); break;
            case 7: DUE.due(told + "merge(" + a + ", " + b + ")", x.merge(a, b), m.merge(a, b)); break;
            case 8: DUE.due(told + "copy(" + a + ", " + b + ")", x.copy(a, b), m.copy(a, b)); break;
            case 9: DUE.due(told + "holds(" + b + ", " + w + ")", x.holds(b, w), m.holds(b, w)); break;
            case 10: DUE.due(told + "count(" + b + ")", x.count(b), m.count(b)); break;
            case 11: DUE.due(told + "next(" + b + ", " + w + ")", x.next(b, w), m.next(b, w)); break;
            case 12: DUE.due(told + "entails(" + b + ")", x.entails(b), m.entails(b)); break;
            case 13: DUE.due(told + "distance(" + a + ", " + b + ")", x.distance(a, b), m.distance(a, b)); break;
            case 14: DUE.due(told + "reach(" + a + ", " + b + ")", x.reach(a, b), m.reach(a, b)); break;
            case 15: DUE.due(told + "matters(" + b + ", " + v + ")", x.matters(b, v), m.matters(b, v)); break;
            case 16:
                DUE.due(told + "defined(" + b + ", " + v + ", " + w + ")", x.defined(b, v, w), m.defined(b, v, w)); break;
            case 17: DUE.due(told + "primes(" + b + ")", x.primes(b), m.primes(b)); break;
            case 18: DUE.due(told + "quote(" + b + ")", x.quote(b), m.quote(b)); break;
            case 19: case 20: case 21: case 22: case 23:
                DUE.due(told + "connect(" + kind + ")", x.connect(kind), m.connect(kind)); break;
            default: DUE.due(told + "atom(" + v + ")", x.atom(v), m.atom(v)); break;
        }
    }

    /** A number below bound, but now and then one outside it. */
    private static int argument(int bound) {
        switch (random(40)) {
            case 0: return bound;
            case 1: return -1;
            case 2: return Bad.ANYWHERE[random(Bad.ANYWHERE.length)];
            default: return random(bound);
        }
    }

    /** Sets of all sizes: some with few worlds, some with about half of them. */
    private static long randomSet(int n) {
        long set = randomBits();
        for (int thinner = random(5); thinner > 0; thinner--) {
            set &= randomBits();
        }
        return set & Sets.all(n);
    }

    private static int random(int bound) {
        return (int) (randomBits() >>> 33) % bound;
    }

    // Always the same numbers, on every machine.
    private static long randomBits() {
        state += 0x9E3779B97F4A7C15L;
        long mixed = (state ^ state >>> 30) * 0xBF58476D1CE4E5B9L;
        mixed = (mixed ^ mixed >>> 27) * 0x94D049BB133111EBL;
        return mixed ^ mixed >>> 31;
    }
}
