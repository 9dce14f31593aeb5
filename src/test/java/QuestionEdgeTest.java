/** The boundary cases that promises 14 to 22 name, a sentence at a time, for every number of variables. */
public final class QuestionEdgeTest {
    private static final Due DUE = new Due();

    private interface OfPair {
        int ask(BeliefBase x, int a, int b);
    }

    public static void main(String[] args) {
        for (int n = 2; n <= 6; n++) {
            holdsIsOneOrZero(n);
            holdsOfNoBelief(n);
            holdsOfNoWorld(n);
            countFromNoneToAll(n);
            countOfNoBelief(n);
            nextAfterAnyInt(n);
            nextOfNoBelief(n);
            nextWhenThereIsNone(n);
            entailsOfEmptyBelief(n);
            entailsOfNoBelief(n);
            entailsOnEmptyStack(n);
            distanceFromNoneToAll(n);
            pairRefused("Promise 18", n, BeliefBase::distance);
            reachFromNoneToAll(n);
            pairRefused("Promise 19", n, BeliefBase::reach);
            mattersOfEmptyAndFull(n);
            mattersOfNoBelief(n);
            mattersOfNoVariable(n);
            definedInEmptyAndFull(n);
            definedByNoneAndAll(n);
            definedOfNoBelief(n);
            definedOfNoVariable(n);
            definedByNoSet(n);
            primesThatFixNothing(n);
            primesThatFixEverything(n);
            primesOfEmptyBelief(n);
            primesThatCannotBeOpened(n);
            primesOfNoBelief(n);
        }
        DUE.end();
    }

    private static int last(int n) {
        return (1 << n) - 1;
    }

    /** Belief 0 is empty, belief 1 holds all worlds, and belief 2 holds the first one and the last one. */
    private static BeliefBase emptyFullAndEnds(int n) {
        return Sets.base(n, 0, Sets.all(n), Sets.of(0, last(n)));
    }

    private static void holdsIsOneOrZero(int n) {
        DUE.sentence("Promise 14", n, "1 if the belief holds the world, otherwise 0.");
        BeliefBase x = emptyFullAndEnds(n);
        for (int w = 0; w < 1 << n; w++) {
            DUE.due("the empty belief, holds(0, " + w + ")", x.holds(0, w), 0);
            DUE.due("all worlds, holds(1, " + w + ")", x.holds(1, w), 1);
            DUE.due("two worlds, holds(2, " + w + ")", x.holds(2, w), w == 0 || w == last(n) ? 1 : 0);
        }
    }

    private static void holdsOfNoBelief(int n) {
        DUE.sentence("Promise 14", n, "-1 if b is not good");
        BeliefBase x = new BeliefBase(n);
        for (int b : Bad.beliefs()) {
            for (int w : new int[] {0, last(n), last(n) + 1, -1}) {
                DUE.due("holds(" + b + ", " + w + ")", x.holds(b, w), -1);
            }
        }
    }

    private static void holdsOfNoWorld(int n) {
        DUE.sentence("Promise 14", n, "-2 if world is not in 0 .. 2^n - 1");
        BeliefBase x = emptyFullAndEnds(n);
        for (int b = 0; b < 3; b++) {
            for (int w : Bad.worlds(n)) {
                DUE.due("holds(" + b + ", " + w + ")", x.holds(b, w), -2);
            }
        }
    }

    private static void countFromNoneToAll(int n) {
        DUE.sentence("Promise 15", n, "How many worlds the belief holds");
        for (int many = 0; many <= 1 << n; many++) {
            long lowest = many == 0 ? 0 : -1L >>> (64 - many);
            BeliefBase x = Sets.base(n, lowest, Sets.all(n) & ~lowest, Sets.of(last(n)));
            DUE.due("count(0) of the first " + many, x.count(0), many);
            DUE.due("count(1) of all but " + many, x.count(1), (1 << n) - many);
            DUE.due("count(2) of the last", x.count(2), 1);
        }
    }

    private static void countOfNoBelief(int n) {
        DUE.sentence("Promise 15", n, "-1 if b is not good");
        BeliefBase x = new BeliefBase(n);
        for (int b : Bad.beliefs()) {
            DUE.due("count(" + b + ")", x.count(b), -1);
        }
    }

    private static void nextAfterAnyInt(int n) {
        DUE.sentence("Promise 16", n, "The least number of a world of the belief that is greater than after (any int).");
        int last = last(n);
        BeliefBase x = Sets.base(n, Sets.of(1, 2, last), Sets.all(n), Sets.of(0));
        for (int after : new int[] {Integer.MIN_VALUE, Integer.MIN_VALUE + 1, -65, -64, -33, -32, -2, -1}) {
            DUE.due("next(0, " + after + ")", x.next(0, after), 1);
            DUE.due("next(1, " + after + ")", x.next(1, after), 0);
            DUE.due("next(2, " + after + ")", x.next(2, after), 0);
        }
        DUE.due("next(0, 0)", x.next(0, 0), 1);
        DUE.due("next(0, 1)", x.next(0, 1), 2);
        for (int after = 2; after < last; after++) {
            DUE.due("next(0, " + after + ")", x.next(0, after), last);
        }
        for (int after = 0; after < last; after++) {
            DUE.due("next(1, " + after + ")", x.next(1, after), after + 1);
        }
    }

    private static void nextOfNoBelief(int n) {
        DUE.sentence("Promise 16", n, "-1 if b is not good");
        BeliefBase x = new BeliefBase(n);
        for (int b : Bad.beliefs()) {
            for (int after : new int[] {Integer.MIN_VALUE, -1, 0, last(n), Integer.MAX_VALUE}) {
                DUE.due("next(" + b + ", " + after + ")", x.next(b, after), -1);
            }
        }
    }

    private static void nextWhenThereIsNone(int n) {
        DUE.sentence("Promise 16", n, "-2 if there is none");
        int last = last(n);
        BeliefBase x = Sets.base(n, 0, Sets.all(n), Sets.of(0));
        for (int after : new int[] {Integer.MIN_VALUE, -1, 0, last, Integer.MAX_VALUE}) {
            DUE.due("the empty belief, next(0, " + after + ")", x.next(0, after), -2);
        }
        for (int after : new int[] {last, last + 1, 63, 64, 65, 127, 1 << 16, Integer.MAX_VALUE - 1, Integer.MAX_VALUE}) {
            DUE.due("next(1, " + after + ")", x.next(1, after), -2);
            DUE.due("next(2, " + after + ")", x.next(2, after), -2);
        }
        DUE.due("next(2, 0)", x.next(2, 0), -2);
    }

    private static void entailsOfEmptyBelief(int n) {
        DUE.sentence("Promise 17", n, "1 if the top formula is true at every world of the belief (so also if it is empty)");
        dueEntails("true nowhere", n, 0, 1, 0, 0);
        dueEntails("true everywhere", n, Sets.all(n), 1, 1, 1);
        dueEntails("true at the first and the last world", n, Sets.of(0, last(n)), 1, 0, 1);
        dueEntails("false at the last world alone", n, Sets.all(n) & ~Sets.of(last(n)), 1, 0, 0);
        dueEntails("false at world 1 alone", n, Sets.all(n) & ~Sets.of(1), 1, 0, 1);
    }

    private static void dueEntails(String told, int n, long formula, int empty, int full, int ends) {
        BeliefBase x = emptyFullAndEnds(n);
        Sets.push(x, n, formula);
        DUE.due(told + ", the empty belief, entails(0)", x.entails(0), empty);
        DUE.due(told + ", all worlds, entails(1)", x.entails(1), full);
        DUE.due(told + ", two worlds, entails(2)", x.entails(2), ends);
    }

    private static void entailsOfNoBelief(int n) {
        DUE.sentence("Promise 17", n, "-1 if b is not good");
        for (int depth : new int[] {0, 1, 8}) {
            BeliefBase x = State.made(n, depth);
            for (int b : Bad.beliefs()) {
                DUE.due("entails(" + b + ") on " + depth, x.entails(b), -1);
            }
        }
    }

    private static void entailsOnEmptyStack(int n) {
        DUE.sentence("Promise 17", n, "-2 if the stack is empty");
        for (int b = 0; b < 3; b++) {
            BeliefBase x = State.made(n, 0);
            DUE.due("entails(" + b + ") of an empty stack", x.entails(b), -2);
            DUE.due("entails(" + b + ") of a new object", new BeliefBase(n).entails(b), -2);
        }
    }

    private static void distanceFromNoneToAll(int n) {
        DUE.sentence("Promise 18", n, "The least distance of a world of belief a and a world of belief b.");
        for (int apart = 0; apart <= n; apart++) {
            BeliefBase x = Sets.base(n, Sets.of(0), Sets.of((1 << apart) - 1), Sets.withOnes(n, apart, n));
            duePair("distance", n, BeliefBase::distance, x, new int[][] {
                {0, apart, apart}, {apart, 0, 0}, {apart, 0, 0}});
        }
    }

    private static void duePair(String name, int n, OfPair question, BeliefBase x, int[][] due) {
        for (int a = 0; a < 3; a++) {
            for (int b = 0; b < 3; b++) {
                DUE.due(name + "(" + a + ", " + b + ")", question.ask(x, a, b), due[a][b]);
            }
        }
    }

    private static void pairRefused(String where, int n, OfPair question) {
        DUE.sentence(where, n, "-1 if a or b is not good");
        BeliefBase x = emptyFullAndEnds(n);
        for (int bad : Bad.beliefs()) {
            for (int good = 0; good < 3; good++) {
                DUE.due("of " + bad + " and " + good, question.ask(x, bad, good), -1);
                DUE.due("of " + good + " and " + bad, question.ask(x, good, bad), -1);
            }
            DUE.due("of " + bad + " twice", question.ask(x, bad, bad), -1);
        }
        DUE.sentence(where, n, "-2 if one of them is empty");
        for (int b = 0; b < 3; b++) {
            DUE.due("of the empty one and " + b, question.ask(x, 0, b), -2);
            DUE.due("of " + b + " and the empty one", question.ask(x, b, 0), -2);
        }
        DUE.due("of two worlds and all", question.ask(x, 1, 2), 0);
    }

    private static void reachFromNoneToAll(int n) {
        DUE.sentence("Promise 19", n, "The greatest distance from belief a that a world of belief b has.");
        for (int apart = 0; apart <= n; apart++) {
            BeliefBase x = Sets.base(n, Sets.of(0), Sets.of((1 << apart) - 1), Sets.withOnes(n, 0, apart));
            // The farthest from a world with so many ones has none of them, and as many others as it may.
            int farthest = Math.min(n, 2 * apart);
            duePair("reach", n, BeliefBase::reach, x, new int[][] {
                {0, apart, apart}, {apart, 0, farthest}, {0, 0, 0}});
        }
    }

    private static void dueMatters(String told, int n, long belief, int due) {
        BeliefBase x = Sets.base(n, belief);
        for (int v = 0; v < n; v++) {
            DUE.due(told + ", matters(0, " + v + ")", x.matters(0, v), due);
        }
    }

    private static void mattersOfEmptyAndFull(int n) {
        DUE.sentence("Promise 20", n, "1 if the belief holds a world but not the one that differs from it in the value of v alone");
        dueMatters("the empty belief", n, 0, 0);
        dueMatters("all worlds", n, Sets.all(n), 0);
        dueMatters("the first world", n, Sets.of(0), 1);
        dueMatters("the last world", n, Sets.of(last(n)), 1);
        dueMatters("all worlds but the first", n, Sets.all(n) & ~Sets.of(0), 1);
        dueMatters("all worlds but the last", n, Sets.all(n) & ~Sets.of(last(n)), 1);
        for (int v = 0; v < n; v++) {
            BeliefBase x = Sets.base(n, Sets.of(last(n), last(n) - (1 << v)));
            for (int u = 0; u < n; u++) {
                String told = "two that differ in " + v + ", matters(0, " + u + ")";
                DUE.due(told, x.matters(0, u), u == v ? 0 : 1);
            }
        }
    }

    private static void mattersOfNoBelief(int n) {
        DUE.sentence("Promise 20", n, "-1 if b is not good");
        BeliefBase x = new BeliefBase(n);
        for (int b : Bad.beliefs()) {
            for (int v : new int[] {0, n - 1, n, -1}) {
                DUE.due("matters(" + b + ", " + v + ")", x.matters(b, v), -1);
            }
        }
    }

    private static void mattersOfNoVariable(int n) {
        DUE.sentence("Promise 20", n, "-2 if v is not good");
        BeliefBase x = emptyFullAndEnds(n);
        for (int b = 0; b < 3; b++) {
            for (int v : Bad.variables(n)) {
                DUE.due("matters(" + b + ", " + v + ")", x.matters(b, v), -2);
            }
        }
    }

    private static void definedInEmptyAndFull(int n) {
        DUE.sentence("Promise 21", n, "1 if any two worlds of the belief that agree on all variables of the set give v");
        for (int v = 0; v < n; v++) {
            BeliefBase x = Sets.base(n, 0, Sets.all(n), Sets.of(last(n)));
            for (int set = 0; set <= last(n); set++) {
                String asked = v + ", " + set + ")";
                DUE.due("the empty belief, defined(0, " + asked, x.defined(0, v, set), 1);
                DUE.due("all worlds, defined(1, " + asked, x.defined(1, v, set), set >> v & 1);
                DUE.due("one world, defined(2, " + asked, x.defined(2, v, set), 1);
            }
        }
    }

    private static void definedByNoneAndAll(int n) {
        DUE.sentence("Promise 21", n, "set is the sum of 2^u over the variables u of the set.");
        for (int v = 0; v < n; v++) {
            // The first belief: only v varies. The second: all vary together. The third: v is 1, the others vary.
            BeliefBase x = Sets.base(n, Sets.of(0, 1 << v), Sets.of(0, last(n)), Sets.where(n, v, 1));
            int others = last(n) - (1 << v);
            int[] sets = {0, others, 1 << v, last(n)};
            int[][] answers = {{0, 0, 1, 1}, {0, 1, 1, 1}, {1, 1, 1, 1}};
            for (int b = 0; b < 3; b++) {
                for (int i = 0; i < sets.length; i++) {
                    String told = "defined(" + b + ", " + v + ", " + sets[i] + ")";
                    DUE.due(told, x.defined(b, v, sets[i]), answers[b][i]);
                }
            }
        }
    }

    private static void definedOfNoBelief(int n) {
        DUE.sentence("Promise 21", n, "-1 if b is not good");
        BeliefBase x = new BeliefBase(n);
        for (int b : Bad.beliefs()) {
            for (int v : new int[] {0, n - 1, n, -1}) {
                for (int set : new int[] {0, last(n), last(n) + 1, -1}) {
                    DUE.due("defined(" + b + ", " + v + ", " + set + ")", x.defined(b, v, set), -1);
                }
            }
        }
    }

    private static void definedOfNoVariable(int n) {
        DUE.sentence("Promise 21", n, "-2 if v is not good");
        for (int b = 0; b < 3; b++) {
            BeliefBase x = emptyFullAndEnds(n);
            for (int v : Bad.variables(n)) {
                for (int set : new int[] {0, last(n), last(n) + 1, -1}) {
                    DUE.due("defined(" + b + ", " + v + ", " + set + ")", x.defined(b, v, set), -2);
                }
            }
        }
    }

    private static void definedByNoSet(int n) {
        DUE.sentence("Promise 21", n, "-3 if set is not in 0 .. 2^n - 1");
        for (int b = 0; b < 3; b++) {
            BeliefBase x = emptyFullAndEnds(n);
            for (int v : new int[] {0, n - 1}) {
                for (int set : Bad.worlds(n)) {
                    DUE.due("defined(" + b + ", " + v + ", " + set + ")", x.defined(b, v, set), -3);
                }
            }
        }
    }

    private static void duePrimes(String told, int n, long belief, int due) {
        BeliefBase x = Sets.base(n, belief, 0, Sets.all(n));
        DUE.due(told + ", primes(0)", x.primes(0), due);
    }

    private static void primesThatFixNothing(int n) {
        DUE.sentence("Promise 22", n, "A cube fixes the values of some variables (perhaps none");
        duePrimes("all worlds", n, Sets.all(n), 1);
        for (int v = 0; v < n; v++) {
            duePrimes("variable " + v + " is 1", n, Sets.where(n, v, 1), 1);
            duePrimes("variable " + v + " is 0", n, Sets.where(n, v, 0), 1);
        }
    }

    private static void primesThatFixEverything(int n) {
        DUE.sentence("Promise 22", n, "perhaps all");
        for (int w = 0; w < 1 << n; w++) {
            duePrimes("world " + w + " alone", n, Sets.of(w), 1);
            duePrimes("world " + w + " and its opposite", n, Sets.of(w, last(n) - w), 2);
        }
        duePrimes("an odd number of ones", n, Sets.where(n, w -> Integer.bitCount(w) % 2 == 1), 1 << (n - 1));
        duePrimes("an even number of ones", n, Sets.where(n, w -> Integer.bitCount(w) % 2 == 0), 1 << (n - 1));
    }

    private static void primesOfEmptyBelief(int n) {
        DUE.sentence("Promise 22", n, "cover only worlds of the belief");
        BeliefBase x = emptyFullAndEnds(n);
        DUE.due("the empty belief, primes(0)", x.primes(0), 0);
        DUE.due("all worlds, primes(1)", x.primes(1), 1);
        DUE.due("two opposite worlds, primes(2)", x.primes(2), 2);
    }

    private static void primesThatCannotBeOpened(int n) {
        DUE.sentence("Promise 22", n, "while every cube got by opening one more of the fixed variables covers some world");
        duePrimes("all worlds but the first", n, Sets.all(n) & ~Sets.of(0), n);
        duePrimes("all worlds but the last", n, Sets.all(n) & ~Sets.of(last(n)), n);
        duePrimes("all worlds but the first and the last", n, Sets.all(n) & ~Sets.of(0, last(n)), n * (n - 1));
        for (int v = 0; v < n; v++) {
            duePrimes("two that differ in " + v, n, Sets.of(0, 1 << v), 1);
        }
    }

    private static void primesOfNoBelief(int n) {
        DUE.sentence("Promise 22", n, "-1 if b is not good");
        BeliefBase x = new BeliefBase(n);
        for (int b : Bad.beliefs()) {
            DUE.due("primes(" + b + ")", x.primes(b), -1);
        }
    }
}
