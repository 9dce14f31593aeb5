import java.util.stream.IntStream;

/**
 * Numbers that are not good. Beside the neighbours of the good ones there are those that would be good if some of their
 * bits were lost, or if they were used as the width of a shift.
 */
final class Bad {
    /** Wrong for a belief, a variable, a world, a set and a kind alike. */
    static final int[] ANYWHERE = {
        -1, -2, -64, 64, 65, 1 << 8, 1 << 16, Integer.MAX_VALUE, Integer.MIN_VALUE, Integer.MIN_VALUE + 1};

    private Bad() {
    }

    static int[] beliefs() {
        return beside(3);
    }

    static int[] variables(int n) {
        return beside(n);
    }

    /** Worlds, and sets of variables too: both are 0 .. 2^n - 1. */
    static int[] worlds(int n) {
        return beside(1 << n);
    }

    static int[] kinds() {
        return beside(5);
    }

    private static int[] beside(int good) {
        IntStream above = IntStream.of(good, good + 1, 2 * good, 32, 33).filter(one -> one >= good);
        return IntStream.concat(above, IntStream.of(ANYWHERE)).toArray();
    }
}
