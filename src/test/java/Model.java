import java.util.ArrayDeque;
import java.util.ArrayList;
import java.util.Deque;
import java.util.List;
import java.util.TreeSet;
import java.util.function.IntPredicate;

/**
 * The document's words once more, over sets of the Java library and with no thought for speed: what ModelTest
 * compares the program with. It shares no code and no way of holding things with the program.
 */
final class Model {
    private final int n;
    private final int worlds;
    private final List<TreeSet<Integer>> beliefs = new ArrayList<>();
    private final Deque<TreeSet<Integer>> stack = new ArrayDeque<>();

    Model(int vars) {
        n = Math.max(2, Math.min(6, vars));
        worlds = (int) Math.pow(2, n);
        for (int b = 0; b < 3; b++) {
            beliefs.add(where(w -> true));
        }
    }

    /** A model whose beliefs and formulas (the top one last) are given as bit sets. */
    static Model of(int n, long[] beliefSets, long... formulas) {
        Model m = new Model(n);
        for (int b = 0; b < beliefSets.length; b++) {
            long set = beliefSets[b];
            m.beliefs.set(b, m.where(w -> (set >>> w & 1) != 0));
        }
        for (long formula : formulas) {
            m.stack.push(m.where(w -> (formula >>> w & 1) != 0));
        }
        return m;
    }

    long belief(int b) {
        return bits(beliefs.get(b));
    }

    long top() {
        return stack.isEmpty() ? 0 : bits(stack.peek());
    }

    int depth() {
        return stack.size();
    }

    int atom(int v) {
        if (badVariable(v)) return -1;
        if (stack.size() == 8) return -2;
        stack.push(where(w -> value(w, v) == 1));
        return stack.size();
    }

    int quote(int b) {
        if (badBelief(b)) return -1;
        if (stack.size() == 8) return -2;
        stack.push(new TreeSet<>(beliefs.get(b)));
        return stack.size();
    }

    int connect(int kind) {
        if (kind < 0 || kind > 4) return -1;
        if (stack.size() < (kind == 0 ? 1 : 2)) return -2;
        TreeSet<Integer> b = stack.pop();
        if (kind == 0) {
            stack.push(where(w -> !b.contains(w)));
            return stack.size();
        }
        TreeSet<Integer> a = stack.pop();
        stack.push(where(w -> {
            boolean atA = a.contains(w);
            boolean atB = b.contains(w);
            return kind == 1 ? atA && atB : kind == 2 ? atA || atB : kind == 3 ? atA != atB : !atA || atB;
        }));
        return stack.size();
    }

    int truth(int world) {
        if (stack.isEmpty()) return -1;
        if (badWorld(world)) return -2;
        return stack.peek().contains(world) ? 1 : 0;
    }

    int expand(int b) {
        if (badBelief(b)) return -1;
        if (stack.isEmpty()) return -2;
        beliefs.get(b).retainAll(stack.pop());
        return beliefs.get(b).size();
    }

    int revise(int b) {
        if (badBelief(b)) return -1;
        if (stack.isEmpty()) return -2;
        TreeSet<Integer> f = stack.pop();
        TreeSet<Integer> was = beliefs.get(b);
        int least = f.stream().mapToInt(w -> from(was, w)).min().orElse(-1);
        return set(b, where(w -> f.contains(w) && from(was, w) == least));
    }

    int update(int b) {
        if (badBelief(b)) return -1;
        if (stack.isEmpty()) return -2;
        TreeSet<Integer> f = stack.pop();
        TreeSet<Integer> was = beliefs.get(b);
        return set(b, where(u -> f.contains(u) && was.stream().anyMatch(w -> f.stream().noneMatch(
            x -> properPart(difference(x, w), difference(u, w))))));
    }

    int giveUp(int b) {
        if (badBelief(b)) return -1;
        if (stack.isEmpty()) return -2;
        TreeSet<Integer> f = stack.pop();
        TreeSet<Integer> was = beliefs.get(b);
        if (!f.containsAll(was)) return was.size();
        TreeSet<Integer> without = where(w -> !f.contains(w));
        int least = without.stream().mapToInt(w -> from(was, w)).min().orElse(-1);
        return set(b, where(w -> was.contains(w) || without.contains(w) && from(was, w) == least));
    }

    int forget(int b, int v) {
        if (badBelief(b)) return -1;
        if (badVariable(v)) return -2;
        TreeSet<Integer> was = beliefs.get(b);
        return set(b, where(w -> was.contains(w) || was.stream().anyMatch(u -> differInAlone(u, w, v))));
    }

    int merge(int a, int b) {
        if (badBelief(a) || badBelief(b)) return -1;
        if (stack.isEmpty()) return -2;
        TreeSet<Integer> f = stack.pop();
        TreeSet<Integer> wasA = beliefs.get(a);
        TreeSet<Integer> wasB = beliefs.get(b);
        int least = f.stream().mapToInt(w -> from(wasA, w) + from(wasB, w)).min().orElse(-1);
        return set(b, where(w -> f.contains(w) && from(wasA, w) + from(wasB, w) == least));
    }

    int copy(int a, int b) {
        if (badBelief(a) || badBelief(b)) return -1;
        return set(b, new TreeSet<>(beliefs.get(a)));
    }

    int holds(int b, int world) {
        if (badBelief(b)) return -1;
        if (badWorld(world)) return -2;
        return beliefs.get(b).contains(world) ? 1 : 0;
    }

    int count(int b) {
        return badBelief(b) ? -1 : beliefs.get(b).size();
    }

    int next(int b, int after) {
        if (badBelief(b)) return -1;
        Integer found = beliefs.get(b).higher(after);
        return found == null ? -2 : found;
    }

    int entails(int b) {
        if (badBelief(b)) return -1;
        if (stack.isEmpty()) return -2;
        return stack.peek().containsAll(beliefs.get(b)) ? 1 : 0;
    }

    int distance(int a, int b) {
        if (badBelief(a) || badBelief(b)) return -1;
        if (beliefs.get(a).isEmpty() || beliefs.get(b).isEmpty()) return -2;
        return beliefs.get(b).stream().mapToInt(w -> from(beliefs.get(a), w)).min().getAsInt();
    }

    int reach(int a, int b) {
        if (badBelief(a) || badBelief(b)) return -1;
        if (beliefs.get(a).isEmpty() || beliefs.get(b).isEmpty()) return -2;
        return beliefs.get(b).stream().mapToInt(w -> from(beliefs.get(a), w)).max().getAsInt();
    }

    int matters(int b, int v) {
        if (badBelief(b)) return -1;
        if (badVariable(v)) return -2;
        TreeSet<Integer> is = beliefs.get(b);
        return is.stream().anyMatch(w -> where(u -> differInAlone(u, w, v)).stream().noneMatch(is::contains)) ? 1 : 0;
    }

    int defined(int b, int v, int set) {
        if (badBelief(b)) return -1;
        if (badVariable(v)) return -2;
        if (badWorld(set)) return -3;
        for (int w : beliefs.get(b)) {
            for (int u : beliefs.get(b)) {
                boolean agree = true;
                for (int x = 0; x < n; x++) {
                    agree &= value(set, x) == 0 || value(w, x) == value(u, x);
                }
                if (agree && value(w, v) != value(u, v)) return 0;
            }
        }
        return 1;
    }

    int primes(int b) {
        if (badBelief(b)) return -1;
        int found = 0;
        int cubes = (int) Math.pow(3, n);
        for (int c = 0; c < cubes; c++) {
            int[] cube = new int[n];
            for (int v = 0, rest = c; v < n; v++, rest /= 3) {
                cube[v] = rest % 3;
            }
            if (coversOnly(cube, beliefs.get(b)) && noWiderCoversOnly(cube, beliefs.get(b))) {
                found++;
            }
        }
        return found;
    }

    // In a cube 0 and 1 are fixed values; 2 is an open variable.
    private boolean coversOnly(int[] cube, TreeSet<Integer> belief) {
        for (int w = 0; w < worlds; w++) {
            boolean covered = true;
            for (int v = 0; v < n; v++) {
                covered &= cube[v] == 2 || cube[v] == value(w, v);
            }
            if (covered && !belief.contains(w)) return false;
        }
        return true;
    }

    private boolean noWiderCoversOnly(int[] cube, TreeSet<Integer> belief) {
        for (int v = 0; v < n; v++) {
            if (cube[v] != 2) {
                int[] wider = cube.clone();
                wider[v] = 2;
                if (coversOnly(wider, belief)) return false;
            }
        }
        return true;
    }

    private boolean badBelief(int b) {
        return b != 0 && b != 1 && b != 2;
    }

    private boolean badVariable(int v) {
        return v < 0 || v > n - 1;
    }

    private boolean badWorld(int w) {
        return w < 0 || w > worlds - 1;
    }

    private int set(int b, TreeSet<Integer> belief) {
        beliefs.set(b, belief);
        return belief.size();
    }

    private TreeSet<Integer> where(IntPredicate wanted) {
        TreeSet<Integer> set = new TreeSet<>();
        for (int w = 0; w < worlds; w++) {
            if (wanted.test(w)) set.add(w);
        }
        return set;
    }

    private static int value(int world, int v) {
        for (int u = 0; u < v; u++) {
            world /= 2;
        }
        return world % 2;
    }

    private boolean[] difference(int one, int other) {
        boolean[] differs = new boolean[n];
        for (int v = 0; v < n; v++) {
            differs[v] = value(one, v) != value(other, v);
        }
        return differs;
    }

    private static boolean properPart(boolean[] part, boolean[] whole) {
        boolean smaller = false;
        for (int v = 0; v < whole.length; v++) {
            if (part[v] && !whole[v]) return false;
            smaller |= whole[v] && !part[v];
        }
        return smaller;
    }

    private int apart(int one, int other) {
        int differing = 0;
        for (boolean differs : difference(one, other)) {
            differing += differs ? 1 : 0;
        }
        return differing;
    }

    private boolean differInAlone(int one, int other, int v) {
        return apart(one, other) == 1 && value(one, v) != value(other, v);
    }

    private int from(TreeSet<Integer> belief, int world) {
        return belief.stream().mapToInt(w -> apart(w, world)).min().orElse(n + 1);
    }

    private static long bits(TreeSet<Integer> set) {
        long bits = 0;
        for (int w : set) {
            bits |= 1L << w;
        }
        return bits;
    }
}
