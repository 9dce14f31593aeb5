/** Compares answers with those that are due, and ends a test with exit code 1 if one was not as due. */
final class Due {
    /** Numbers that are wrong for a belief, a variable, a world, a set and a kind alike. */
    static final int[] NEVER_GOOD = {-1, -2, 64, 65, 1 << 8, 1 << 16, Integer.MAX_VALUE, Integer.MIN_VALUE};

    private static final int MOST_PRINTED = 50;

    private int compared = 0;
    private int wrong = 0;

    void due(String call, long got, long want) {
        compared++;
        if (got != want) {
            wrong++;
            if (wrong <= MOST_PRINTED) {
                System.out.println(call + " answered " + got + ", due is " + want);
            }
        }
    }

    void dueWorlds(String what, long got, long want) {
        compared++;
        if (got != want) {
            wrong++;
            if (wrong <= MOST_PRINTED) {
                System.out.println(what + ": worlds " + listed(got) + ", due are " + listed(want));
            }
        }
    }

    void dueTrue(String what, boolean got) {
        compared++;
        if (!got) {
            wrong++;
            System.out.println(what);
        }
    }

    void end() {
        if (compared == 0) {
            System.out.println("nothing was compared");
            System.exit(1);
        }
        System.out.println(wrong == 0 ? compared + " answers, all as due" : wrong + " of " + compared + " not as due");
        if (wrong != 0) {
            System.exit(1);
        }
    }

    private static String listed(long worlds) {
        StringBuilder text = new StringBuilder("{");
        for (int w = 0; w < 64; w++) {
            if ((worlds >>> w & 1) != 0) {
                text.append(text.length() > 1 ? " " : "").append(w);
            }
        }
        return text.append("}").toString();
    }
}
