/** Promises 14 to 22: the questions. Their boundary cases are in QuestionEdgeTest. */
public final class QuestionTest {
    private static final Due DUE = new Due();

    public static void main(String[] args) {
        holds();
        count();
        next();
        entails();
        distance();
        reach();
        matters();
        defined();
        primes();
        primesOfTheMiddle();
        DUE.end();
    }

    private static void holds() {
        BeliefBase x = Sets.base(3, Sets.of(0, 5), Sets.of(7), 0);
        int[] first = {1, 0, 0, 0, 0, 1, 0, 0};
        for (int w = 0; w < 8; w++) {
            DUE.due("promise 14, holds(0, " + w + ")", x.holds(0, w), first[w]);
            DUE.due("promise 14, holds(1, " + w + ")", x.holds(1, w), w == 7 ? 1 : 0);
            DUE.due("promise 14, holds(2, " + w + ")", x.holds(2, w), 0);
        }
        BeliefBase y = Sets.base(6, Sets.of(31, 63));
        DUE.due("promise 14, holds(0, 63)", y.holds(0, 63), 1);
        DUE.due("promise 14, holds(0, 31)", y.holds(0, 31), 1);
        DUE.due("promise 14, holds(0, 62)", y.holds(0, 62), 0);
    }

    private static void count() {
        BeliefBase x = Sets.base(6, Sets.all(6), Sets.of(0, 31, 32, 63), 0);
        DUE.due("promise 15, count(0)", x.count(0), 64);
        DUE.due("promise 15, count(1)", x.count(1), 4);
        DUE.due("promise 15, count(2)", x.count(2), 0);
    }

    private static void next() {
        BeliefBase x = Sets.base(6, Sets.of(0, 31, 32, 63), Sets.of(3), 0);
        int[][] cases = {{-1, 0}, {0, 31}, {1, 31}, {30, 31}, {31, 32}, {32, 63}, {62, 63}, {63, -2}};
        for (int[] one : cases) {
            DUE.due("promise 16, next(0, " + one[0] + ")", x.next(0, one[0]), one[1]);
        }
        DUE.due("promise 16, next(1, 2)", x.next(1, 2), 3);
        DUE.due("promise 16, next(1, 3)", x.next(1, 3), -2);
        BeliefBase y = new BeliefBase(2);
        DUE.due("promise 16, next(0, 2) of two variables", y.next(0, 2), 3);
        DUE.due("promise 16, next(0, 3) of two variables", y.next(0, 3), -2);
    }

    private static void entails() {
        BeliefBase x = Sets.base(3, Sets.of(1, 3), Sets.of(1, 2), 0);
        x.atom(1);
        x.atom(0);
        DUE.due("promise 17, entails(0)", x.entails(0), 1);
        DUE.due("promise 17, entails(1)", x.entails(1), 0);
        DUE.due("promise 17, entails(2) of an empty belief", x.entails(2), 1);
        DUE.due("promise 17, depth() after it", x.depth(), 2);
        x.expand(2);
        DUE.due("promise 17, entails(0) of the formula below", x.entails(0), 0);
    }

    private static void distance() {
        BeliefBase x = Sets.base(3, Sets.of(0, 1), Sets.of(6, 7), 0);
        DUE.due("promise 18, distance(0, 1)", x.distance(0, 1), 2);
        DUE.due("promise 18, distance(1, 0)", x.distance(1, 0), 2);
        DUE.due("promise 18, distance(0, 0)", x.distance(0, 0), 0);
        BeliefBase y = Sets.base(6, Sets.of(0), Sets.of(63), Sets.of(62, 33, 63));
        DUE.due("promise 18, distance(0, 1), the whole way", y.distance(0, 1), 6);
        DUE.due("promise 18, distance(0, 2)", y.distance(0, 2), 2);
        DUE.due("promise 18, distance(1, 2)", y.distance(1, 2), 0);
        BeliefBase z = Sets.base(2, Sets.of(1), Sets.of(2), Sets.of(0));
        DUE.due("promise 18, distance(0, 1), two variables", z.distance(0, 1), 2);
        DUE.due("promise 18, distance(0, 2), two variables", z.distance(0, 2), 1);
    }

    private static void reach() {
        BeliefBase x = Sets.base(3, Sets.of(0), Sets.of(0, 1, 6), 0);
        DUE.due("promise 19, reach(0, 1)", x.reach(0, 1), 2);
        DUE.due("promise 19, reach(1, 0), the other way", x.reach(1, 0), 0);
        DUE.due("promise 19, reach(1, 1)", x.reach(1, 1), 0);
        BeliefBase y = Sets.base(6, Sets.of(0), Sets.of(63), Sets.of(0, 63, 7));
        DUE.due("promise 19, reach(0, 1), the whole way", y.reach(0, 1), 6);
        DUE.due("promise 19, reach(0, 2)", y.reach(0, 2), 6);
        DUE.due("promise 19, reach(2, 0)", y.reach(2, 0), 0);
        DUE.due("promise 19, reach(1, 2), world 0 is the farthest", y.reach(1, 2), 6);
        BeliefBase z = Sets.base(6, Sets.of(0, 63), Sets.of(7, 1), Sets.all(6));
        DUE.due("promise 19, reach(0, 1), the least to any world of a", z.reach(0, 1), 3);
        DUE.due("promise 19, reach(0, 2), all worlds", z.reach(0, 2), 3);
        DUE.due("promise 19, reach(1, 0)", z.reach(1, 0), 3);
    }

    private static void matters() {
        BeliefBase x = Sets.base(3, Sets.of(1, 3, 5, 7), Sets.of(0, 1, 2), 0);
        int[][] due = {{1, 0, 0}, {1, 1, 1}, {0, 0, 0}};
        for (int b = 0; b < 3; b++) {
            for (int v = 0; v < 3; v++) {
                DUE.due("promise 20, matters(" + b + ", " + v + ")", x.matters(b, v), due[b][v]);
            }
        }
        BeliefBase y = Sets.base(6, Sets.of(31, 63), Sets.of(63), Sets.all(6));
        for (int v = 0; v < 6; v++) {
            DUE.due("promise 20, matters(0, " + v + ") of worlds 31 and 63", y.matters(0, v), v == 5 ? 0 : 1);
            DUE.due("promise 20, matters(1, " + v + ") of world 63", y.matters(1, v), 1);
            DUE.due("promise 20, matters(2, " + v + ") of all worlds", y.matters(2, v), 0);
        }
    }

    private static void defined() {
        // Belief 0: variable 2 is the exclusive or of 0 and 1. Belief 1: variable 0 is always 1.
        BeliefBase x = Sets.base(3, Sets.of(0, 5, 6, 3), Sets.of(1, 3, 5), 0);
        int[][] cases = {
            {0, 2, 3, 1}, {0, 2, 1, 0}, {0, 2, 2, 0}, {0, 2, 0, 0}, {0, 2, 4, 1}, {0, 2, 7, 1},
            {0, 0, 6, 1}, {0, 0, 4, 0}, {0, 1, 5, 1}, {0, 1, 4, 0},
            {1, 0, 0, 1}, {1, 0, 6, 1}, {1, 1, 0, 0}, {1, 1, 4, 0}, {1, 1, 1, 0}, {1, 2, 3, 0}, {1, 1, 2, 1},
            {2, 0, 0, 1}, {2, 2, 3, 1}};
        for (int[] one : cases) {
            String told = "promise 21, defined(" + one[0] + ", " + one[1] + ", " + one[2] + ")";
            DUE.due(told, x.defined(one[0], one[1], one[2]), one[3]);
        }
        BeliefBase y = Sets.base(6, Sets.of(0, 63), Sets.of(63), Sets.all(6));
        DUE.due("promise 21, defined by another that goes with it", y.defined(0, 5, 1), 1);
        DUE.due("promise 21, defined by nothing", y.defined(0, 5, 0), 0);
        DUE.due("promise 21, defined in a single world", y.defined(1, 5, 0), 1);
        DUE.due("promise 21, defined by all others when all worlds are held", y.defined(2, 5, 31), 0);
        DUE.due("promise 21, defined by all when all worlds are held", y.defined(2, 5, 63), 1);
    }

    private static void primesCase(String told, int n, long belief, int due) {
        BeliefBase x = Sets.base(n, belief);
        DUE.due("promise 22, " + told + ": primes(0)", x.primes(0), due);
    }

    private static void primes() {
        primesCase("two neighbours", 3, Sets.of(2, 3), 1);
        primesCase("a path of three", 3, Sets.of(0, 1, 3), 2);
        primesCase("a ring of six", 3, Sets.of(1, 3, 2, 6, 4, 5), 6);
        primesCase("a face and one more", 3, Sets.of(0, 1, 2, 3, 7), 2);
        BeliefBase x = Sets.base(3, Sets.of(0, 1, 3), Sets.of(5), Sets.all(3));
        DUE.due("promise 22, primes(1)", x.primes(1), 1);
        DUE.due("promise 22, primes(2)", x.primes(2), 1);
    }

    private static void primesOfTheMiddle() {
        // Two variables fixed to 1 and two to 0, the other two open: 6! / (2! 2! 2!) ways.
        primesCase("two to four ones of six", 6, Sets.withOnes(6, 2, 4), 90);
        // One variable fixed to 1 and one to 0, the other two open: 4! / (1! 1! 2!) ways.
        primesCase("one to three ones of four", 4, Sets.withOnes(4, 1, 3), 12);
    }
}
