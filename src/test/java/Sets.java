import java.util.function.IntPredicate;
import java.util.function.IntUnaryOperator;
import java.util.stream.IntStream;

/** Makes formulas and beliefs out of sets of worlds, by the public calls alone; bit w of a set stands for world w. */
final class Sets {
    private static final int MOST_WORLDS = 64;

    private Sets() {
    }

    static long of(int... worlds) {
        long set = 0;
        for (int w : worlds) {
            set |= 1L << w;
        }
        return set;
    }

    static long all(int n) {
        return n == 6 ? -1L : (1L << (1 << n)) - 1;
    }

    static long where(int n, IntPredicate wanted) {
        return of(IntStream.range(0, 1 << n).filter(wanted).toArray());
    }

    static long where(int n, int v, int value) {
        return where(n, w -> (w >> v & 1) == value);
    }

    static long withOnes(int n, int fewest, int most) {
        return where(n, w -> Integer.bitCount(w) >= fewest && Integer.bitCount(w) <= most);
    }

    /** The worlds that differ from the given one in one variable. */
    static long around(int n, int world) {
        return where(n, w -> Integer.bitCount(w ^ world) == 1);
    }

    /** Puts the formula on the stack that is true just at the worlds of the set; needs n free places. */
    static void push(BeliefBase x, int n, long set) {
        if (set == 0 || set == all(n)) {
            x.atom(0);
            x.atom(0);
            x.connect(set == 0 ? BeliefBase.XOR : BeliefBase.IMPLIES);
        } else {
            pushPart(x, n - 1, set);
        }
    }

    // A formula over v and the variables below it, true at some of their worlds but not at all: "(change and v) xor low".
    // low is how it is where v is 0, change is where that differs from how it is where v is 1. So few calls are needed
    // that a test which makes several formulas stays below the 512 calls that an object is good for.
    private static void pushPart(BeliefBase x, int v, long part) {
        long low = part & all(v);
        long high = part >>> (1 << v);
        long change = low ^ high;
        if (change == 0) {
            pushPart(x, v - 1, low);
            return;
        }
        if (high == 0 && low != all(v)) {
            pushPart(x, v - 1, low);
            x.atom(v);
            x.connect(BeliefBase.NOT);
            x.connect(BeliefBase.AND);
            return;
        }
        pushWhere(x, v, change);
        if (low == all(v)) {
            x.connect(BeliefBase.NOT);
        } else if (low != 0) {
            pushPart(x, v - 1, low);
            x.connect(BeliefBase.XOR);
        }
    }

    private static void pushWhere(BeliefBase x, int v, long change) {
        if (change == all(v)) {
            x.atom(v);
            return;
        }
        pushPart(x, v - 1, change);
        x.atom(v);
        x.connect(BeliefBase.AND);
    }

    /** Makes a belief that holds all worlds hold just those of the set. */
    static void narrow(BeliefBase x, int n, int b, long set) {
        push(x, n, set);
        x.expand(b);
    }

    /** A new object with the worlds of the first beliefs; those not given hold all worlds. */
    static BeliefBase base(int n, long... beliefs) {
        BeliefBase x = new BeliefBase(n);
        for (int b = 0; b < beliefs.length; b++) {
            narrow(x, n, b, beliefs[b]);
        }
        return x;
    }

    static long belief(BeliefBase x, int b) {
        return gathered(w -> x.holds(b, w));
    }

    static long top(BeliefBase x) {
        return gathered(x::truth);
    }

    private static long gathered(IntUnaryOperator question) {
        long set = 0;
        for (int w = 0; w < MOST_WORLDS; w++) {
            int answer = question.applyAsInt(w);
            if (answer < 0) {
                break;
            }
            set |= (long) answer << w;
        }
        return set;
    }
}
