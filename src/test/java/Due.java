/** Compares answers with those that are due, and ends a test with exit code 1 if one was not as due. */
final class Due {
    private static final int MOST_PRINTED = 50;

    private String sentence = "";
    private int compared = 0;
    private int comparedBefore = 0;
    private int wrong = 0;

    /** Begins the test of one sentence of the document, with n variables: an answer not as due is told with its words. */
    void sentence(String where, int n, String words) {
        endSentence();
        sentence = where + " says '" + words + "': n " + n + ", ";
        comparedBefore = compared;
    }

    void due(String call, long got, long want) {
        if (!counted(got == want)) {
            tell(call + " answered " + got + ", due is " + want);
        }
    }

    void dueWorlds(String what, long got, long want) {
        if (!counted(got == want)) {
            tell(what + ": worlds " + listed(got) + ", due are " + listed(want));
        }
    }

    void dueTrue(String what, boolean got) {
        if (!counted(got)) {
            tell(what);
        }
    }

    void end() {
        endSentence();
        if (compared == 0) {
            System.out.println("nothing was compared");
            System.exit(1);
        }
        System.out.println(wrong == 0 ? compared + " answers, all as due" : wrong + " of " + compared + " not as due");
        if (wrong != 0) {
            System.exit(1);
        }
    }

    private boolean counted(boolean asDue) {
        compared++;
        wrong += asDue ? 0 : 1;
        return asDue;
    }

    private void tell(String whatIsWrong) {
        if (wrong <= MOST_PRINTED) {
            System.out.println(sentence + whatIsWrong);
        }
    }

    // A sentence whose test compares nothing has no test.
    private void endSentence() {
        if (!sentence.isEmpty()) {
            dueTrue("nothing was compared", compared > comparedBefore);
        }
    }

    private static String listed(long worlds) {
        StringBuilder text = new StringBuilder("{");
        for (int w = 0; w < 64; w++) {
            if ((worlds >>> w & 1) != 0) {
                text.append(text.length() > 1 ? " " : "").append(w);
            }
        }
        return text.append("}").toString();
    }
}
