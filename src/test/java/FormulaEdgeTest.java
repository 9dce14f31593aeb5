import java.util.function.ToIntBiFunction;

/** The boundary cases that promises 1 to 6 name, a sentence at a time, for every number of variables. */
public final class FormulaEdgeTest {
    private static final Due DUE = new Due();

    public static void main(String[] args) {
        varsBelowTwo();
        varsAboveSix();
        for (int n = 2; n <= 6; n++) {
            varsIsN(n);
            stackEmptyAtFirst(n);
            depthFromNoneToEight(n);
            atomOfEachVariable(n);
            atomOfNoVariable(n);
            atomOnFullStack(n);
            atomAnswersDepth(n);
            quoteOfEmptyAndFull(n);
            quoteStays(n);
            quoteOfNoBelief(n);
            quoteOnFullStack(n);
            quoteAnswersDepth(n);
            connectOfTrueEverywhereAndNowhere(n);
            connectKeepsTheOrder(n);
            connectOfNoKind(n);
            connectOfTooFew(n);
            connectOfJustEnough(n);
            truthIsOneOrZero(n);
            truthOfEmptyStack(n);
            truthOfNoWorld(n);
        }
        DUE.end();
    }

    private static void varsBelowTwo() {
        DUE.sentence("Promise 1", 2, "below 2 becomes 2");
        for (int vars : new int[] {2, 1, 0, -1, -2, -6, -64, Integer.MIN_VALUE + 6, Integer.MIN_VALUE}) {
            dueVariables(vars, 2);
        }
    }

    private static void varsAboveSix() {
        DUE.sentence("Promise 1", 6, "above 6 becomes 6");
        for (int vars : new int[] {6, 7, 8, 31, 32, 34, 63, 64, 66, 1 << 8, 1 << 16, Integer.MAX_VALUE}) {
            dueVariables(vars, 6);
        }
    }

    private static void varsIsN(int n) {
        DUE.sentence("Promise 1", n, "vars is n");
        dueVariables(n, n);
    }

    private static void dueVariables(int vars, int n) {
        BeliefBase x = new BeliefBase(vars);
        String told = "BeliefBase(" + vars + "), ";
        DUE.due(told + "count(0)", x.count(0), 1 << n);
        DUE.due(told + "holds(0, 2^n - 1)", x.holds(0, (1 << n) - 1), 1);
        DUE.due(told + "holds(0, 2^n)", x.holds(0, 1 << n), -2);
        DUE.due(told + "next(0, 2^n - 1)", x.next(0, (1 << n) - 1), -2);
        DUE.due(told + "atom(n)", x.atom(n), -1);
        DUE.due(told + "atom(n - 1)", x.atom(n - 1), 1);
        DUE.due(told + "expand(0)", x.expand(0), 1 << (n - 1));
    }

    private static void stackEmptyAtFirst(int n) {
        DUE.sentence("Promise 1", n, "The stack is empty at first.");
        BeliefBase x = new BeliefBase(n);
        DUE.due("depth()", x.depth(), 0);
        DUE.due("truth(0)", x.truth(0), -1);
        DUE.due("connect(NOT)", x.connect(BeliefBase.NOT), -2);
        DUE.due("expand(0)", x.expand(0), -2);
        DUE.due("atom(0)", x.atom(0), 1);
    }

    private static void depthFromNoneToEight(int n) {
        DUE.sentence("Promise 2", n, "How many formulas are on the stack.");
        BeliefBase x = new BeliefBase(n);
        for (int i = 0; i < 8; i++) {
            DUE.due("depth() on the way up", x.depth(), i);
            x.quote(i % 3);
        }
        DUE.due("depth() of a full stack", x.depth(), 8);
        x.quote(0);
        DUE.due("depth() after a ninth", x.depth(), 8);
        for (int i = 7; i >= 0; i--) {
            x.giveUp(0);
            DUE.due("depth() on the way down", x.depth(), i);
        }
        x.giveUp(0);
        DUE.due("depth() after one more", x.depth(), 0);
    }

    private static void dueRefused(int n, String name, ToIntBiFunction<BeliefBase, Integer> call, int[] notGood) {
        for (int depth : new int[] {0, 1, 2, 7, 8}) {
            for (int bad : notGood) {
                BeliefBase x = State.made(n, depth);
                String told = name + "(" + bad + ") on " + depth;
                DUE.due(told, call.applyAsInt(x, bad), -1);
                DUE.due(told + ", then depth()", x.depth(), depth);
            }
        }
    }

    /** The eighth formula is taken, a ninth is refused whichever it is, and another eighth is taken again. */
    private static void dueFull(int n, String name, ToIntBiFunction<BeliefBase, Integer> call, int good) {
        BeliefBase x = State.made(n, 7);
        DUE.due(name + "(0) on 7", call.applyAsInt(x, 0), 8);
        for (int one = 0; one < good; one++) {
            DUE.due(name + "(" + one + ") on 8", call.applyAsInt(x, one), -2);
        }
        DUE.due("then depth()", x.depth(), 8);
        x.expand(0);
        DUE.due(name + "(" + (good - 1) + ") when one has gone", call.applyAsInt(x, good - 1), 8);
    }

    private static void atomOfEachVariable(int n) {
        DUE.sentence("Promise 3", n, "Puts the formula on the stack that is true where variable v has the value 1.");
        for (int v : new int[] {0, n - 1}) {
            BeliefBase x = new BeliefBase(n);
            x.atom(v);
            for (int w = 0; w < 1 << n; w++) {
                DUE.due("atom(" + v + "), truth(" + w + ")", x.truth(w), w >> v & 1);
            }
        }
    }

    private static void atomOfNoVariable(int n) {
        DUE.sentence("Promise 3", n, "-1 if v is not good");
        dueRefused(n, "atom", BeliefBase::atom, Bad.variables(n));
    }

    private static void atomOnFullStack(int n) {
        DUE.sentence("Promise 3", n, "-2 if there are 8 formulas on the stack");
        dueFull(n, "atom", BeliefBase::atom, n);
    }

    private static void atomAnswersDepth(int n) {
        DUE.sentence("Promise 3", n, "otherwise answers the new depth");
        BeliefBase x = new BeliefBase(n);
        for (int depth = 1; depth <= 8; depth++) {
            DUE.due("atom number " + depth, x.atom((depth - 1) % n), depth);
        }
    }

    private static void quoteOfEmptyAndFull(int n) {
        DUE.sentence("Promise 4", n, "true at the worlds that the belief holds now");
        long ends = Sets.of(0, (1 << n) - 1);
        BeliefBase x = Sets.base(n, 0, Sets.all(n), ends);
        x.quote(0);
        DUE.dueWorlds("quote of the empty belief", Sets.top(x), 0);
        x.quote(1);
        DUE.dueWorlds("quote of all worlds", Sets.top(x), Sets.all(n));
        x.quote(2);
        DUE.dueWorlds("quote of the first and the last world", Sets.top(x), ends);
    }

    private static void quoteStays(int n) {
        DUE.sentence("Promise 4", n, "(later changes of the belief don't change the formula)");
        long two = Sets.of(0, (1 << n) - 1);
        BeliefBase x = Sets.base(n, two, 0, Sets.all(n));
        x.quote(0);
        x.forget(0, 0);
        DUE.dueWorlds("after the belief grew", Sets.top(x), two);
        x.copy(1, 0);
        DUE.dueWorlds("after the belief became empty", Sets.top(x), two);
        x.copy(2, 0);
        DUE.dueWorlds("after the belief became all worlds", Sets.top(x), two);
        x.connect(BeliefBase.NOT);
        DUE.dueWorlds("the belief after its quote was turned", Sets.belief(x, 0), Sets.all(n));
    }

    private static void quoteOfNoBelief(int n) {
        DUE.sentence("Promise 4", n, "-1 if b is not good");
        dueRefused(n, "quote", BeliefBase::quote, Bad.beliefs());
    }

    private static void quoteOnFullStack(int n) {
        DUE.sentence("Promise 4", n, "-2 if there are 8 formulas on the stack");
        dueFull(n, "quote", BeliefBase::quote, 3);
    }

    private static void quoteAnswersDepth(int n) {
        DUE.sentence("Promise 4", n, "otherwise answers the new depth");
        BeliefBase x = new BeliefBase(n);
        for (int depth = 1; depth <= 8; depth++) {
            DUE.due("quote number " + depth, x.quote((depth - 1) % 3), depth);
        }
    }

    private static void connectOfTrueEverywhereAndNowhere(int n) {
        DUE.sentence("Promise 5", n, "NOT takes the top formula A off and puts the one on that is true where A is false.");
        long all = Sets.all(n);
        dueConnected(n, BeliefBase.NOT, all, all, 0);
        dueConnected(n, BeliefBase.NOT, 0, 0, all);
        DUE.sentence("Promise 5", n, "AND: true where both are");
        dueConnected(n, BeliefBase.AND, all, all, all);
        dueConnected(n, BeliefBase.AND, all, 0, 0);
        dueConnected(n, BeliefBase.AND, 0, 0, 0);
        DUE.sentence("Promise 5", n, "OR: true where at least one is");
        dueConnected(n, BeliefBase.OR, all, all, all);
        dueConnected(n, BeliefBase.OR, 0, all, all);
        dueConnected(n, BeliefBase.OR, 0, 0, 0);
        DUE.sentence("Promise 5", n, "XOR: true where exactly one is");
        dueConnected(n, BeliefBase.XOR, all, all, 0);
        dueConnected(n, BeliefBase.XOR, 0, all, all);
        dueConnected(n, BeliefBase.XOR, 0, 0, 0);
        DUE.sentence("Promise 5", n, "IMPLIES: true where A is false or B is true.");
        dueConnected(n, BeliefBase.IMPLIES, all, all, all);
        dueConnected(n, BeliefBase.IMPLIES, 0, 0, all);
        dueConnected(n, BeliefBase.IMPLIES, 0, all, all);
        dueConnected(n, BeliefBase.IMPLIES, all, 0, 0);
    }

    /** Three formulas, of which the upper ones are connected: what becomes of them, and that the lowest stays. */
    private static void dueConnected(int n, int kind, long lower, long upper, long due) {
        BeliefBase x = Sets.base(n, lower, upper, Sets.of(1));
        x.quote(2);
        x.quote(0);
        x.quote(1);
        int depth = kind == BeliefBase.NOT ? 3 : 2;
        String told = "connect(" + kind + ")";
        DUE.due(told, x.connect(kind), depth);
        DUE.due(told + ", then depth()", x.depth(), depth);
        DUE.dueWorlds(told + ", the new one", Sets.top(x), due);
        x.copy(1, 2);
        x.expand(2);
        DUE.dueWorlds(told + ", the one under it", Sets.top(x), kind == BeliefBase.NOT ? lower : Sets.of(1));
    }

    private static void connectKeepsTheOrder(int n) {
        DUE.sentence("Promise 5", n, "take the top formula B and the one under it, A, off");
        long last = Sets.of((1 << n) - 1);
        dueConnected(n, BeliefBase.IMPLIES, last, Sets.of(0), Sets.all(n) & ~last);
        dueConnected(n, BeliefBase.IMPLIES, Sets.of(0), last, Sets.all(n) & ~Sets.of(0));
    }

    private static void connectOfNoKind(int n) {
        DUE.sentence("Promise 5", n, "-1 if kind is not in 0 .. 4");
        dueRefused(n, "connect", BeliefBase::connect, Bad.kinds());
    }

    private static void connectOfTooFew(int n) {
        DUE.sentence("Promise 5", n, "-2 if there are too few formulas (none for NOT; fewer than two for the others)");
        for (int kind = BeliefBase.NOT; kind <= BeliefBase.IMPLIES; kind++) {
            for (int depth = 0; depth < (kind == BeliefBase.NOT ? 1 : 2); depth++) {
                BeliefBase x = State.made(n, depth);
                String told = "connect(" + kind + ") of " + depth;
                DUE.due(told, x.connect(kind), -2);
                DUE.due(told + ", then depth()", x.depth(), depth);
                DUE.dueWorlds(told + ", then the top", Sets.top(x), Sets.top(State.made(n, depth)));
            }
        }
    }

    private static void connectOfJustEnough(int n) {
        DUE.sentence("Promise 5", n, "otherwise answers the new depth");
        for (int kind = BeliefBase.NOT; kind <= BeliefBase.IMPLIES; kind++) {
            int taken = kind == BeliefBase.NOT ? 1 : 2;
            for (int depth = taken; depth <= 8; depth++) {
                BeliefBase x = State.made(n, depth);
                String told = "connect(" + kind + ") of " + depth;
                DUE.due(told, x.connect(kind), depth - taken + 1);
                DUE.due(told + ", then depth()", x.depth(), depth - taken + 1);
            }
        }
    }

    private static void truthIsOneOrZero(int n) {
        DUE.sentence("Promise 6", n, "1 if the top formula is true at the world, otherwise 0.");
        int last = (1 << n) - 1;
        for (int w : new int[] {0, last}) {
            BeliefBase x = new BeliefBase(n);
            Sets.push(x, n, Sets.all(n) & ~Sets.of(w));
            DUE.due("truth(" + w + "), false there alone", x.truth(w), 0);
            DUE.due("truth(" + (last - w) + "), false at " + w + " alone", x.truth(last - w), 1);
            x.connect(BeliefBase.NOT);
            DUE.due("truth(" + w + "), true there alone", x.truth(w), 1);
            DUE.due("truth(" + (last - w) + "), true at " + w + " alone", x.truth(last - w), 0);
        }
    }

    private static void truthOfEmptyStack(int n) {
        DUE.sentence("Promise 6", n, "-1 if the stack is empty");
        BeliefBase x = State.made(n, 1);
        DUE.due("truth(1) of one formula", x.truth(1), 1);
        x.expand(0);
        for (int w = 0; w < 1 << n; w++) {
            DUE.due("truth(" + w + ") of an emptied stack", x.truth(w), -1);
            DUE.due("truth(" + w + ") of a new object", new BeliefBase(n).truth(w), -1);
        }
        for (int w : Bad.worlds(n)) {
            DUE.due("truth(" + w + ") of an emptied stack", x.truth(w), -1);
        }
    }

    private static void truthOfNoWorld(int n) {
        DUE.sentence("Promise 6", n, "-2 if world is not in 0 .. 2^n - 1");
        for (int depth : new int[] {1, 2, 8}) {
            BeliefBase x = State.made(n, depth);
            for (int w : Bad.worlds(n)) {
                DUE.due("truth(" + w + ") of " + depth, x.truth(w), -2);
            }
        }
    }
}
