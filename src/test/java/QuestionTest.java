import java.util.function.IntBinaryOperator;

/** Promises 14 to 22: the questions. */
public final class QuestionTest {
    private static final Due DUE = new Due();

    public static void main(String[] args) {
        holds();
        count();
        next();
        entails();
        distance();
        reach();
        matters();
        defined();
        definedRefused();
        primes();
        primesOfKnownFormulas();
        questionsChangeNothing();
        DUE.end();
    }

    private static void holds() {
        BeliefBase x = Sets.base(3, Sets.of(0, 5), Sets.of(7), 0);
        int[] first = {1, 0, 0, 0, 0, 1, 0, 0};
        for (int w = 0; w < 8; w++) {
            DUE.due("promise 14, holds(0, " + w + ")", x.holds(0, w), first[w]);
            DUE.due("promise 14, holds(1, " + w + ")", x.holds(1, w), w == 7 ? 1 : 0);
            DUE.due("promise 14, holds(2, " + w + ")", x.holds(2, w), 0);
        }
        DUE.due("promise 14, holds(0, 8)", x.holds(0, 8), -2);
        DUE.due("promise 14, holds(3, 0)", x.holds(3, 0), -1);
        DUE.due("promise 14, holds(3, 8): the belief is looked at first", x.holds(3, 8), -1);
        for (int wrong : Due.NEVER_GOOD) {
            DUE.due("promise 14, holds(0, " + wrong + ")", x.holds(0, wrong), -2);
            DUE.due("promise 14, holds(" + wrong + ", 0)", x.holds(wrong, 0), -1);
        }
        BeliefBase y = Sets.base(6, Sets.of(31, 63));
        DUE.due("promise 14, holds(0, 63)", y.holds(0, 63), 1);
        DUE.due("promise 14, holds(0, 31)", y.holds(0, 31), 1);
        DUE.due("promise 14, holds(0, 62)", y.holds(0, 62), 0);
        DUE.due("promise 14, holds(0, 64)", y.holds(0, 64), -2);
    }

    private static void count() {
        BeliefBase x = Sets.base(6, Sets.all(6), Sets.of(0, 31, 32, 63), 0);
        DUE.due("promise 15, count(0)", x.count(0), 64);
        DUE.due("promise 15, count(1)", x.count(1), 4);
        DUE.due("promise 15, count(2)", x.count(2), 0);
        DUE.due("promise 15, count(3)", x.count(3), -1);
        for (int b : Due.NEVER_GOOD) {
            DUE.due("promise 15, count(" + b + ")", x.count(b), -1);
        }
    }

    private static void next() {
        BeliefBase x = Sets.base(6, Sets.of(0, 31, 32, 63), Sets.of(3), 0);
        int[][] cases = {
            {Integer.MIN_VALUE, 0}, {-2, 0}, {-1, 0}, {0, 31}, {1, 31}, {30, 31}, {31, 32}, {32, 63}, {62, 63},
            {63, -2}, {64, -2}, {Integer.MAX_VALUE - 1, -2}, {Integer.MAX_VALUE, -2}};
        for (int[] one : cases) {
            DUE.due("promise 16, next(0, " + one[0] + ")", x.next(0, one[0]), one[1]);
            DUE.due("promise 16, next(2, " + one[0] + ") of an empty belief", x.next(2, one[0]), -2);
            DUE.due("promise 16, next(3, " + one[0] + ")", x.next(3, one[0]), -1);
        }
        DUE.due("promise 16, next(1, 2)", x.next(1, 2), 3);
        DUE.due("promise 16, next(1, 3)", x.next(1, 3), -2);
        for (int b : Due.NEVER_GOOD) {
            DUE.due("promise 16, next(" + b + ", 0)", x.next(b, 0), -1);
        }
        BeliefBase y = new BeliefBase(2);
        DUE.due("promise 16, next(0, 2) of two variables", y.next(0, 2), 3);
        DUE.due("promise 16, next(0, 3) of two variables", y.next(0, 3), -2);
    }

    private static void entails() {
        BeliefBase x = Sets.base(3, Sets.of(1, 3), Sets.of(1, 2), 0);
        DUE.due("promise 17, entails(0) with an empty stack", x.entails(0), -2);
        DUE.due("promise 17, entails(2) with an empty stack", x.entails(2), -2);
        DUE.due("promise 17, entails(3) with an empty stack: the belief is looked at first", x.entails(3), -1);
        x.atom(1);
        x.atom(0);
        DUE.due("promise 17, entails(0)", x.entails(0), 1);
        DUE.due("promise 17, entails(1)", x.entails(1), 0);
        DUE.due("promise 17, entails(2) of an empty belief", x.entails(2), 1);
        DUE.due("promise 17, entails(3)", x.entails(3), -1);
        for (int b : Due.NEVER_GOOD) {
            DUE.due("promise 17, entails(" + b + ")", x.entails(b), -1);
        }
        DUE.due("promise 17, depth() after it", x.depth(), 2);
        x.expand(2);
        DUE.due("promise 17, entails(0) of the formula below", x.entails(0), 0);
        Sets.push(x, 3, 0);
        DUE.due("promise 17, entails(0), true nowhere", x.entails(0), 0);
        DUE.due("promise 17, entails(2) of an empty belief, true nowhere", x.entails(2), 1);
        Sets.push(x, 3, Sets.all(3));
        DUE.due("promise 17, entails(1), true everywhere", x.entails(1), 1);
    }

    private static void pairRefused(String told, BeliefBase x, IntBinaryOperator question) {
        // Belief 2 is the empty one.
        DUE.due(told + "(0, 2), one is empty", question.applyAsInt(0, 2), -2);
        DUE.due(told + "(2, 0), one is empty", question.applyAsInt(2, 0), -2);
        DUE.due(told + "(2, 2), both are empty", question.applyAsInt(2, 2), -2);
        DUE.due(told + "(3, 2): the numbers are looked at first", question.applyAsInt(3, 2), -1);
        DUE.due(told + "(2, 3): the numbers are looked at first", question.applyAsInt(2, 3), -1);
        for (int wrong : Due.NEVER_GOOD) {
            DUE.due(told + "(" + wrong + ", 0)", question.applyAsInt(wrong, 0), -1);
            DUE.due(told + "(0, " + wrong + ")", question.applyAsInt(0, wrong), -1);
        }
    }

    private static void distance() {
        BeliefBase x = Sets.base(3, Sets.of(0, 1), Sets.of(6, 7), 0);
        DUE.due("promise 18, distance(0, 1)", x.distance(0, 1), 2);
        DUE.due("promise 18, distance(1, 0)", x.distance(1, 0), 2);
        DUE.due("promise 18, distance(0, 0)", x.distance(0, 0), 0);
        pairRefused("promise 18, distance", x, x::distance);
        BeliefBase y = Sets.base(6, Sets.of(0), Sets.of(63), Sets.of(62, 33, 63));
        DUE.due("promise 18, distance(0, 1), the whole way", y.distance(0, 1), 6);
        DUE.due("promise 18, distance(0, 2)", y.distance(0, 2), 2);
        DUE.due("promise 18, distance(1, 2)", y.distance(1, 2), 0);
        BeliefBase z = Sets.base(2, Sets.of(1), Sets.of(2), Sets.of(0));
        DUE.due("promise 18, distance(0, 1), two variables", z.distance(0, 1), 2);
        DUE.due("promise 18, distance(0, 2), two variables", z.distance(0, 2), 1);
    }

    private static void reach() {
        BeliefBase x = Sets.base(3, Sets.of(0), Sets.of(0, 1, 6), 0);
        DUE.due("promise 19, reach(0, 1)", x.reach(0, 1), 2);
        DUE.due("promise 19, reach(1, 0), the other way", x.reach(1, 0), 0);
        DUE.due("promise 19, reach(1, 1)", x.reach(1, 1), 0);
        pairRefused("promise 19, reach", x, x::reach);
        BeliefBase y = Sets.base(6, Sets.of(0), Sets.of(63), Sets.of(0, 63, 7));
        DUE.due("promise 19, reach(0, 1), the whole way", y.reach(0, 1), 6);
        DUE.due("promise 19, reach(0, 2)", y.reach(0, 2), 6);
        DUE.due("promise 19, reach(2, 0)", y.reach(2, 0), 0);
        DUE.due("promise 19, reach(1, 2), world 0 is the farthest", y.reach(1, 2), 6);
        BeliefBase z = Sets.base(6, Sets.of(0, 63), Sets.of(7, 1), Sets.all(6));
        DUE.due("promise 19, reach(0, 1), the least to any world of a", z.reach(0, 1), 3);
        DUE.due("promise 19, reach(0, 2), all worlds", z.reach(0, 2), 3);
        DUE.due("promise 19, reach(1, 0)", z.reach(1, 0), 3);
    }

    private static void matters() {
        BeliefBase x = Sets.base(3, Sets.of(1, 3, 5, 7), Sets.of(0, 1, 2), 0);
        int[][] due = {{1, 0, 0}, {1, 1, 1}, {0, 0, 0}};
        for (int b = 0; b < 3; b++) {
            for (int v = 0; v < 3; v++) {
                DUE.due("promise 20, matters(" + b + ", " + v + ")", x.matters(b, v), due[b][v]);
            }
        }
        DUE.due("promise 20, matters(0, 3)", x.matters(0, 3), -2);
        DUE.due("promise 20, matters(3, 0)", x.matters(3, 0), -1);
        DUE.due("promise 20, matters(3, 3): the belief is looked at first", x.matters(3, 3), -1);
        for (int wrong : Due.NEVER_GOOD) {
            DUE.due("promise 20, matters(0, " + wrong + ")", x.matters(0, wrong), -2);
            DUE.due("promise 20, matters(" + wrong + ", 0)", x.matters(wrong, 0), -1);
        }
        BeliefBase y = Sets.base(6, Sets.of(31, 63), Sets.of(63), Sets.all(6));
        for (int v = 0; v < 6; v++) {
            DUE.due("promise 20, matters(0, " + v + ") of worlds 31 and 63", y.matters(0, v), v == 5 ? 0 : 1);
            DUE.due("promise 20, matters(1, " + v + ") of world 63", y.matters(1, v), 1);
            DUE.due("promise 20, matters(2, " + v + ") of all worlds", y.matters(2, v), 0);
        }
    }

    private static void defined() {
        // Belief 0: variable 2 is the exclusive or of 0 and 1. Belief 1: variable 0 is always 1.
        BeliefBase x = Sets.base(3, Sets.of(0, 5, 6, 3), Sets.of(1, 3, 5), 0);
        int[][] cases = {
            {0, 2, 3, 1}, {0, 2, 1, 0}, {0, 2, 2, 0}, {0, 2, 0, 0}, {0, 2, 4, 1}, {0, 2, 7, 1},
            {0, 0, 6, 1}, {0, 0, 4, 0}, {0, 1, 5, 1}, {0, 1, 4, 0},
            {1, 0, 0, 1}, {1, 0, 6, 1}, {1, 1, 0, 0}, {1, 1, 4, 0}, {1, 1, 1, 0}, {1, 2, 3, 0}, {1, 1, 2, 1},
            {2, 0, 0, 1}, {2, 2, 3, 1}};
        for (int[] one : cases) {
            String told = "promise 21, defined(" + one[0] + ", " + one[1] + ", " + one[2] + ")";
            DUE.due(told, x.defined(one[0], one[1], one[2]), one[3]);
        }
        BeliefBase y = Sets.base(6, Sets.of(0, 63), Sets.of(63), Sets.all(6));
        DUE.due("promise 21, defined by another that goes with it", y.defined(0, 5, 1), 1);
        DUE.due("promise 21, defined by nothing", y.defined(0, 5, 0), 0);
        DUE.due("promise 21, defined in a single world", y.defined(1, 5, 0), 1);
        DUE.due("promise 21, defined by all others when all worlds are held", y.defined(2, 5, 31), 0);
        DUE.due("promise 21, defined by all when all worlds are held", y.defined(2, 5, 63), 1);
    }

    private static void definedRefused() {
        BeliefBase x = new BeliefBase(3);
        DUE.due("promise 21, defined(3, 0, 0)", x.defined(3, 0, 0), -1);
        DUE.due("promise 21, defined(0, 3, 0)", x.defined(0, 3, 0), -2);
        DUE.due("promise 21, defined(0, 0, 8)", x.defined(0, 0, 8), -3);
        DUE.due("promise 21, defined(3, 3, 8)", x.defined(3, 3, 8), -1);
        DUE.due("promise 21, defined(0, 3, 8)", x.defined(0, 3, 8), -2);
        for (int wrong : Due.NEVER_GOOD) {
            DUE.due("promise 21, defined(" + wrong + ", 0, 0)", x.defined(wrong, 0, 0), -1);
            DUE.due("promise 21, defined(0, " + wrong + ", 0)", x.defined(0, wrong, 0), -2);
            DUE.due("promise 21, defined(0, 0, " + wrong + ")", x.defined(0, 0, wrong), -3);
            DUE.due("promise 21, defined(0, " + wrong + ", " + wrong + ")", x.defined(0, wrong, wrong), -2);
            DUE.due("promise 21, defined(" + wrong + ", " + wrong + ", 8)", x.defined(wrong, wrong, 8), -1);
        }
        DUE.due("promise 21, defined(0, 0, 7)", x.defined(0, 0, 7), 1);
        DUE.due("promise 21, defined(0, 0, 6)", x.defined(0, 0, 6), 0);
    }

    private static void primesCase(String told, int n, long belief, int due) {
        BeliefBase x = Sets.base(n, belief);
        DUE.due("promise 22, " + told + ": primes(0)", x.primes(0), due);
    }

    private static void primes() {
        for (int n = 2; n <= 6; n++) {
            primesCase("no world", n, 0, 0);
            primesCase("all worlds: the cube that fixes nothing", n, Sets.all(n), 1);
            primesCase("one world", n, Sets.of((1 << n) - 1), 1);
            primesCase("all worlds but one", n, Sets.all(n) & ~Sets.of(0), n);
            primesCase("opposite worlds", n, Sets.of(0, (1 << n) - 1), 2);
        }
        primesCase("two neighbours", 3, Sets.of(2, 3), 1);
        primesCase("a path of three", 3, Sets.of(0, 1, 3), 2);
        primesCase("a ring of six", 3, Sets.of(1, 3, 2, 6, 4, 5), 6);
        primesCase("a face and one more", 3, Sets.of(0, 1, 2, 3, 7), 2);
        BeliefBase x = Sets.base(3, Sets.of(0, 1, 3), Sets.of(5), Sets.all(3));
        DUE.due("promise 22, primes(1)", x.primes(1), 1);
        DUE.due("promise 22, primes(2)", x.primes(2), 1);
        DUE.due("promise 22, primes(3)", x.primes(3), -1);
        for (int b : Due.NEVER_GOOD) {
            DUE.due("promise 22, primes(" + b + ")", x.primes(b), -1);
        }
    }

    private static void primesOfKnownFormulas() {
        long oddOnes = 0;
        long middle = 0;
        for (int w = 0; w < 64; w++) {
            int ones = Integer.bitCount(w);
            oddOnes |= (long) (ones & 1) << w;
            middle |= (ones >= 2 && ones <= 4 ? 1L : 0L) << w;
        }
        primesCase("an odd number of ones: no two worlds are neighbours", 6, oddOnes, 32);
        // Two variables fixed to 1 and two to 0, the other two open: 6! / (2! 2! 2!) ways.
        primesCase("two to four ones of six", 6, middle, 90);
    }

    private static void questionsChangeNothing() {
        BeliefBase x = Sets.base(3, Sets.of(0, 1, 3), Sets.of(5), Sets.of(1, 2));
        x.atom(1);
        x.atom(2);
        for (int b = -1; b <= 3; b++) {
            x.count(b);
            x.entails(b);
            x.primes(b);
            for (int other = -1; other <= 3; other++) {
                x.holds(b, other);
                x.next(b, other);
                x.distance(b, other);
                x.reach(b, other);
                x.matters(b, other);
                x.defined(b, other, 3);
                x.truth(other);
            }
        }
        DUE.due("after the questions, depth()", x.depth(), 2);
        DUE.dueWorlds("after the questions, belief 0", Sets.belief(x, 0), Sets.of(0, 1, 3));
        DUE.dueWorlds("after the questions, belief 1", Sets.belief(x, 1), Sets.of(5));
        DUE.dueWorlds("after the questions, belief 2", Sets.belief(x, 2), Sets.of(1, 2));
        DUE.dueWorlds("after the questions, the top", Sets.top(x), Sets.of(4, 5, 6, 7));
        x.giveUp(2);
        DUE.dueWorlds("after the questions, the one under it", Sets.top(x), Sets.of(2, 3, 6, 7));
    }
}
