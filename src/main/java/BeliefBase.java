/**
 * Three beliefs (sets of worlds over a few yes-no variables) and a stack of formulas that change them.
 *
 * There are at most 64 worlds, so a belief, and a formula too, is one long: bit w is set if world w is in it.
 * No bit at or above the number of worlds is ever set in one of them.
 */
public final class BeliefBase {
    public static final int NOT = 0;
    public static final int AND = 1;
    public static final int OR = 2;
    public static final int XOR = 3;
    public static final int IMPLIES = 4;

    private static final int FEWEST_VARIABLES = 2;
    private static final int MOST_VARIABLES = 6;
    private static final int BELIEFS = 3;
    private static final int MOST_FORMULAS = 8;

    private final long[] beliefs = new long[BELIEFS];
    private final long[] formulas = new long[MOST_FORMULAS];
    private final long[] worldsWithOne = new long[MOST_VARIABLES];
    private final int variables;
    private final int worlds;
    private final long everyWorld;
    private int height;

    public BeliefBase(int vars) {
        variables = vars < FEWEST_VARIABLES ? FEWEST_VARIABLES : vars > MOST_VARIABLES ? MOST_VARIABLES : vars;
        worlds = 1 << variables;
        // Shifting ones out at the top also serves 64 worlds, where 1L << worlds would wrap round to 1.
        everyWorld = -1L >>> (64 - worlds);
        height = 0;
        for (int v = 0; v < variables; v++) {
            for (int w = 0; w < worlds; w++) {
                if ((w >>> v & 1) != 0) {
                    worldsWithOne[v] |= 1L << w;
                }
            }
        }
        for (int b = 0; b < BELIEFS; b++) {
            beliefs[b] = everyWorld;
        }
    }

    // ---- formulas ----

    public int depth() {
        return height;
    }

    public int atom(int v) {
        if (!isVariable(v)) {
            return -1;
        }
        if (height >= MOST_FORMULAS) {
            return -2;
        }
        return putOn(worldsWithOne[v]);
    }

    public int quote(int b) {
        if (!isBelief(b)) {
            return -1;
        }
        if (height >= MOST_FORMULAS) {
            return -2;
        }
        return putOn(beliefs[b]);
    }

    public int connect(int kind) {
        if (kind < NOT || kind > IMPLIES) {
            return -1;
        }
        int needed = kind == NOT ? 1 : 2;
        if (height < needed) {
            return -2;
        }
        long upper = takeOff();
        if (kind == NOT) {
            return putOn(everyWorld & ~upper);
        }
        long lower = takeOff();
        long joined = joinedBy(kind, lower, upper);
        return putOn(joined);
    }

    public int truth(int world) {
        if (height == 0) {
            return -1;
        }
        if (!isWorld(world)) {
            return -2;
        }
        return isIn(formulas[height - 1], world) ? 1 : 0;
    }

    // ---- changes ----

    public int expand(int b) {
        if (!isBelief(b)) {
            return -1;
        }
        if (height == 0) {
            return -2;
        }
        long formula = takeOff();
        return become(b, beliefs[b] & formula);
    }

    public int revise(int b) {
        if (!isBelief(b)) {
            return -1;
        }
        if (height == 0) {
            return -2;
        }
        long formula = takeOff();
        long nearest = nearestToBoth(beliefs[b], beliefs[b], formula);
        return become(b, nearest);
    }

    public int update(int b) {
        if (!isBelief(b)) {
            return -1;
        }
        if (height == 0) {
            return -2;
        }
        long formula = takeOff();
        long updated = 0L;
        for (int w = 0; w < worlds; w++) {
            if (isIn(beliefs[b], w)) {
                updated |= leastChangesOf(w, formula);
            }
        }
        return become(b, updated);
    }

    public int giveUp(int b) {
        if (!isBelief(b)) {
            return -1;
        }
        if (height == 0) {
            return -2;
        }
        long formula = takeOff();
        long belief = beliefs[b];
        if ((belief & ~formula) != 0L) {
            return become(b, belief);
        }
        long joining = nearestToBoth(belief, belief, everyWorld & ~formula);
        return become(b, belief | joining);
    }

    public int forget(int b, int v) {
        if (!isBelief(b)) {
            return -1;
        }
        if (!isVariable(v)) {
            return -2;
        }
        long turned = turnedIn(v, beliefs[b]);
        return become(b, beliefs[b] | turned);
    }

    public int merge(int a, int b) {
        if (!isBelief(a) || !isBelief(b)) {
            return -1;
        }
        if (height == 0) {
            return -2;
        }
        long formula = takeOff();
        long nearest = nearestToBoth(beliefs[a], beliefs[b], formula);
        return become(b, nearest);
    }

    public int copy(int a, int b) {
        if (!isBelief(a) || !isBelief(b)) {
            return -1;
        }
        return become(b, beliefs[a]);
    }

    // ---- questions ----

    public int holds(int b, int world) {
        if (!isBelief(b)) {
            return -1;
        }
        if (!isWorld(world)) {
            return -2;
        }
        return isIn(beliefs[b], world) ? 1 : 0;
    }

    public int count(int b) {
        if (!isBelief(b)) {
            return -1;
        }
        return sizeOf(beliefs[b]);
    }

    public int next(int b, int after) {
        if (!isBelief(b)) {
            return -1;
        }
        // Every world is compared with after, because after + 1 would wrap round at the greatest int.
        for (int w = 0; w < worlds; w++) {
            if (w > after && isIn(beliefs[b], w)) {
                return w;
            }
        }
        return -2;
    }

    public int entails(int b) {
        if (!isBelief(b)) {
            return -1;
        }
        if (height == 0) {
            return -2;
        }
        return (beliefs[b] & ~formulas[height - 1]) == 0L ? 1 : 0;
    }

    public int distance(int a, int b) {
        if (!isBelief(a) || !isBelief(b)) {
            return -1;
        }
        if (beliefs[a] == 0L || beliefs[b] == 0L) {
            return -2;
        }
        int least = variables;
        for (int w = 0; w < worlds; w++) {
            if (isIn(beliefs[b], w)) {
                int far = distanceFrom(beliefs[a], w);
                least = far < least ? far : least;
            }
        }
        return least;
    }

    public int reach(int a, int b) {
        if (!isBelief(a) || !isBelief(b)) {
            return -1;
        }
        if (beliefs[a] == 0L || beliefs[b] == 0L) {
            return -2;
        }
        int greatest = 0;
        for (int w = 0; w < worlds; w++) {
            if (isIn(beliefs[b], w)) {
                int far = distanceFrom(beliefs[a], w);
                greatest = far > greatest ? far : greatest;
            }
        }
        return greatest;
    }

    public int matters(int b, int v) {
        if (!isBelief(b)) {
            return -1;
        }
        if (!isVariable(v)) {
            return -2;
        }
        long turned = turnedIn(v, beliefs[b]);
        return (beliefs[b] & ~turned) != 0L ? 1 : 0;
    }

    public int defined(int b, int v, int set) {
        if (!isBelief(b)) {
            return -1;
        }
        if (!isVariable(v)) {
            return -2;
        }
        // A set of variables is numbered as the world in which just these have the value 1.
        if (!isWorld(set)) {
            return -3;
        }
        long withOne = beliefs[b] & worldsWithOne[v];
        long withZero = beliefs[b] & ~worldsWithOne[v];
        for (int w = 0; w < worlds; w++) {
            if (isIn(withOne, w) && hasAgreeing(withZero, w, set)) {
                return 0;
            }
        }
        return 1;
    }

    public int primes(int b) {
        if (!isBelief(b)) {
            return -1;
        }
        int found = 0;
        for (int open = 0; open < worlds; open++) {
            found += primesOpenIn(open, beliefs[b]);
        }
        return found;
    }

    // ---- what is good ----

    private boolean isBelief(int b) {
        return b >= 0 && b < BELIEFS;
    }

    private boolean isVariable(int v) {
        return v >= 0 && v < variables;
    }

    private boolean isWorld(int world) {
        return world >= 0 && world < worlds;
    }

    // ---- the stack and the beliefs; the callers have looked at the height and at b ----

    private int putOn(long formula) {
        formulas[height] = formula;
        height++;
        return height;
    }

    private long takeOff() {
        height--;
        return formulas[height];
    }

    private int become(int b, long set) {
        beliefs[b] = set;
        return sizeOf(set);
    }

    private long joinedBy(int kind, long lower, long upper) {
        switch (kind) {
            case AND:
                return lower & upper;
            case OR:
                return lower | upper;
            case XOR:
                return lower ^ upper;
            default:
                return everyWorld & ~lower | upper;
        }
    }

    // ---- sets of worlds ----

    private boolean isIn(long set, int world) {
        return (set >>> world & 1L) != 0L;
    }

    private int sizeOf(long set) {
        int size = 0;
        for (int w = 0; w < worlds; w++) {
            if (isIn(set, w)) {
                size++;
            }
        }
        return size;
    }

    /** The worlds that differ from a world of the set in the value of v alone. */
    private long turnedIn(int v, long set) {
        int step = 1 << v;
        long ones = worldsWithOne[v];
        return (set & ones) >>> step | (set & ~ones) << step;
    }

    /** Whether the set has a world that agrees with the given one on all the variables of shared. */
    private boolean hasAgreeing(long set, int world, int shared) {
        for (int w = 0; w < worlds; w++) {
            if (isIn(set, w) && ((w ^ world) & shared) == 0) {
                return true;
            }
        }
        return false;
    }

    // ---- distances ----

    private int distanceFrom(long belief, int world) {
        long within = 1L << world;
        for (int far = 0; far <= variables; far++) {
            if ((within & belief) != 0L) {
                return far;
            }
            within = widened(within);
        }
        // Every world is within n of the given one, so only the empty belief comes here.
        return variables + 1;
    }

    private long widened(long set) {
        long wide = set;
        for (int v = 0; v < variables; v++) {
            wide |= turnedIn(v, set);
        }
        return wide;
    }

    /**
     * The candidates for which the sum of the distances from the two beliefs is least. A single belief is handed over
     * twice, since twice a distance is least where the distance itself is.
     */
    private long nearestToBoth(long one, long other, long candidates) {
        long nearest = 0L;
        // The greatest sum there is, that of two empty beliefs: the first candidate is never above it.
        int least = 2 * (variables + 1);
        for (int w = 0; w < worlds; w++) {
            if (isIn(candidates, w)) {
                int sum = distanceFrom(one, w) + distanceFrom(other, w);
                if (sum < least) {
                    least = sum;
                    nearest = 0L;
                }
                if (sum == least) {
                    nearest |= 1L << w;
                }
            }
        }
        return nearest;
    }

    // ---- least change ----

    private long leastChangesOf(int from, long formula) {
        long least = 0L;
        for (int to = 0; to < worlds; to++) {
            if (isIn(formula, to) && isLeastChange(from, to, formula)) {
                least |= 1L << to;
            }
        }
        return least;
    }

    private boolean isLeastChange(int from, int to, long formula) {
        int change = from ^ to;
        for (int w = 0; w < worlds; w++) {
            int other = from ^ w;
            boolean properPart = other != change && (other & ~change) == 0;
            if (properPart && isIn(formula, w)) {
                return false;
            }
        }
        return true;
    }

    // ---- cubes ----

    /** How many of the cubes counted by primes leave open just the variables of open. */
    private int primesOpenIn(int open, long belief) {
        long inside = insideWhenOpen(open, belief);
        long prime = inside;
        for (int v = 0; v < variables; v++) {
            if ((open >>> v & 1) != 0) {
                // Of the worlds that a cube covers, the one with 0 in every open variable stands for the cube.
                prime &= ~worldsWithOne[v];
            } else {
                // With v open as well, a cube stays inside if the cube on the other side of v is inside too.
                long otherSide = turnedIn(v, inside);
                prime &= ~otherSide;
            }
        }
        return sizeOf(prime);
    }

    /** The worlds whose cube, got by leaving open just the variables of open, covers only worlds of the belief. */
    private long insideWhenOpen(int open, long belief) {
        long inside = belief;
        for (int v = 0; v < variables; v++) {
            if ((open >>> v & 1) != 0) {
                inside &= turnedIn(v, inside);
            }
        }
        return inside;
    }
}
