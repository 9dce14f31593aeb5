/** Promises 1 to 6: a new object and the stack of formulas. Their boundary cases are in FormulaEdgeTest. */
public final class FormulaTest {
    private static final Due DUE = new Due();

    public static void main(String[] args) {
        newObject();
        depth();
        atom();
        quote();
        quoteStaysAsItWas();
        connectTruthTables();
        connectTakesTheTopTwo();
        eightFormulas();
        truth();
        objectsAreApart();
        DUE.end();
    }

    private static void newObject() {
        for (int n = 2; n <= 6; n++) {
            BeliefBase x = new BeliefBase(n);
            DUE.due("promise 1, n " + n + ", depth()", x.depth(), 0);
            for (int b = 0; b < 3; b++) {
                DUE.due("promise 1, n " + n + ", count(" + b + ")", x.count(b), 1 << n);
            }
        }
    }

    private static void depth() {
        BeliefBase x = new BeliefBase(3);
        for (int i = 0; i < 8; i++) {
            DUE.due("promise 2, depth()", x.depth(), i);
            x.atom(i % 3);
        }
        x.connect(BeliefBase.NOT);
        DUE.due("promise 2, depth() after NOT", x.depth(), 8);
        x.connect(BeliefBase.AND);
        DUE.due("promise 2, depth() after AND", x.depth(), 7);
        x.expand(0);
        x.revise(0);
        x.update(0);
        x.giveUp(0);
        DUE.due("promise 2, depth() after four changes", x.depth(), 3);
        x.merge(0, 1);
        DUE.due("promise 2, depth() after merge", x.depth(), 2);
        x.forget(0, 1);
        x.copy(0, 1);
        DUE.due("promise 2, depth() after forget and copy", x.depth(), 2);
    }

    private static void atom() {
        for (int n = 2; n <= 6; n++) {
            BeliefBase x = new BeliefBase(n);
            for (int v = 0; v < n; v++) {
                DUE.due("promise 3, n " + n + ", atom(" + v + ")", x.atom(v), v + 1);
                for (int w = 0; w < 1 << n; w++) {
                    DUE.due("promise 3, n " + n + ", atom(" + v + "), truth(" + w + ")", x.truth(w), w >> v & 1);
                }
            }
        }
    }

    private static void quote() {
        BeliefBase x = Sets.base(3, Sets.of(1, 6), Sets.of(), Sets.of(0, 1, 2, 3, 4, 5, 6, 7));
        DUE.due("promise 4, quote(0)", x.quote(0), 1);
        DUE.dueWorlds("promise 4, quote(0)", Sets.top(x), Sets.of(1, 6));
        DUE.due("promise 4, quote(1)", x.quote(1), 2);
        DUE.dueWorlds("promise 4, quote(1), an empty belief", Sets.top(x), 0);
        DUE.due("promise 4, quote(2)", x.quote(2), 3);
        DUE.dueWorlds("promise 4, quote(2), all worlds", Sets.top(x), Sets.all(3));
        DUE.dueWorlds("promise 4, the belief quoted stays", Sets.belief(x, 0), Sets.of(1, 6));
    }

    private static void quoteStaysAsItWas() {
        BeliefBase x = Sets.base(3, Sets.of(1, 6));
        x.quote(0);
        x.forget(0, 0);
        DUE.dueWorlds("promise 4, quote(0) after the belief grew", Sets.top(x), Sets.of(1, 6));
        x.copy(1, 0);
        DUE.dueWorlds("promise 4, quote(0) after the belief became another", Sets.top(x), Sets.of(1, 6));
        x.connect(BeliefBase.NOT);
        DUE.dueWorlds("promise 4, the belief after its quote was changed", Sets.belief(x, 0), Sets.all(3));
    }

    private static void connectTruthTables() {
        // Columns: neither, A alone, B alone, both; with A = variable 0 and B = variable 1 these are worlds 0 .. 3.
        int[][] tables = {{}, {0, 0, 0, 1}, {0, 1, 1, 1}, {0, 1, 1, 0}, {1, 0, 1, 1}};
        for (int n = 2; n <= 6; n++) {
            for (int kind = BeliefBase.AND; kind <= BeliefBase.IMPLIES; kind++) {
                BeliefBase x = new BeliefBase(n);
                x.atom(0);
                x.atom(1);
                String told = "promise 5, n " + n + ", connect(" + kind + ")";
                DUE.due(told, x.connect(kind), 1);
                for (int w = 0; w < 1 << n; w++) {
                    DUE.due(told + ", truth(" + w + ")", x.truth(w), tables[kind][w & 3]);
                }
            }
            BeliefBase x = new BeliefBase(n);
            x.atom(1);
            DUE.due("promise 5, n " + n + ", connect(NOT)", x.connect(BeliefBase.NOT), 1);
            for (int w = 0; w < 1 << n; w++) {
                DUE.due("promise 5, n " + n + ", NOT, truth(" + w + ")", x.truth(w), 1 - (w >> 1 & 1));
            }
            x.quote(0);
            x.connect(BeliefBase.NOT);
            x.expand(0);
            DUE.due("promise 5, n " + n + ", NOT of what is true everywhere", x.count(0), 0);
            x.quote(0);
            x.connect(BeliefBase.NOT);
            DUE.due("promise 5, n " + n + ", NOT of what is true nowhere", x.revise(0), 1 << n);
        }
    }

    private static void connectTakesTheTopTwo() {
        BeliefBase x = new BeliefBase(3);
        x.atom(2);
        x.atom(0);
        x.atom(1);
        DUE.due("promise 5, connect(IMPLIES) over a third", x.connect(BeliefBase.IMPLIES), 2);
        DUE.dueWorlds("promise 5, the upper two joined", Sets.top(x), Sets.of(0, 2, 3, 4, 6, 7));
        DUE.due("promise 5, connect(NOT) over another", x.connect(BeliefBase.NOT), 2);
        DUE.dueWorlds("promise 5, the top one turned", Sets.top(x), Sets.of(1, 5));
        x.expand(0);
        DUE.dueWorlds("promise 5, the one under them stays", Sets.top(x), Sets.of(4, 5, 6, 7));
    }

    private static void eightFormulas() {
        BeliefBase x = new BeliefBase(3);
        for (int i = 1; i <= 8; i++) {
            DUE.due("promise 3, atom number " + i, x.atom(i % 3), i);
        }
        DUE.dueWorlds("promise 3, the top of the full stack", Sets.top(x), Sets.of(4, 5, 6, 7));
        DUE.due("promise 5, connect(NOT) on a full stack", x.connect(BeliefBase.NOT), 8);
        for (int i = 8; i >= 1; i--) {
            DUE.due("promise 3, depth() on the way down", x.depth(), i);
            long atom = i % 3 == 0 ? Sets.of(1, 3, 5, 7) : i % 3 == 1 ? Sets.of(2, 3, 6, 7) : Sets.of(4, 5, 6, 7);
            DUE.dueWorlds("promise 3, formula " + i, Sets.top(x), i == 8 ? ~atom & Sets.all(3) : atom);
            x.giveUp(1);
        }
    }

    private static void truth() {
        BeliefBase x = new BeliefBase(3);
        x.atom(1);
        x.atom(2);
        DUE.due("promise 6, truth(3)", x.truth(3), 0);
        DUE.due("promise 6, truth(4)", x.truth(4), 1);
        DUE.due("promise 6, truth(7)", x.truth(7), 1);
        DUE.due("promise 6, depth() after the questions", x.depth(), 2);
        x.expand(0);
        DUE.due("promise 6, truth(4) of the formula under it", x.truth(4), 0);
        DUE.due("promise 6, truth(3) of the formula under it", x.truth(3), 1);
    }

    private static void objectsAreApart() {
        BeliefBase x = new BeliefBase(3);
        BeliefBase y = new BeliefBase(4);
        x.atom(0);
        x.expand(0);
        x.atom(1);
        DUE.due("promise 1, depth() of another object", y.depth(), 0);
        DUE.due("promise 1, count(0) of another object", y.count(0), 16);
        DUE.due("promise 1, count(0) of the one", x.count(0), 4);
    }
}
