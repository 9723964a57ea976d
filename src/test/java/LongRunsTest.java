import java.util.ArrayList;
import java.util.List;

/**
 * Long runs of calls, compared with a plain reading of the terms: all paths are listed, then sorted.
 * The calls come from a fixed formula, so that every run of the test is the same.
 */
public final class LongRunsTest {
    private static final int RUNS = 1000;
    // A round makes at most three calls, and an object is good for 512.
    private static final int ROUNDS = 170;
    private static final int BUILDING_ROUNDS = 40;

    private final YenKPaths x = new YenKPaths();
    private final int[][] weights = new int[7][7];
    private int source = 0;
    private int target = 6;
    private long seed;
    private final int spread;

    private LongRunsTest(int run) {
        seed = run;
        // Small spreads give many paths of the same length.
        spread = new int[] {1, 2, 5, 50}[run % 4];
    }

    public static void main(String[] args) {
        Check.sentence("All promises, in long runs of calls");
        for (int run = 0; run < RUNS; run++) {
            LongRunsTest test = new LongRunsTest(run);
            for (int round = 0; round < ROUNDS; round++) {
                // The first rounds only build, so that the later ones ask about many arcs.
                test.call(test.below(round < BUILDING_ROUNDS ? 4 : 24));
            }
        }
        Check.end();
    }

    private int below(int bound) {
        seed = seed * 6364136223846793005L + 1442695040888963407L;
        return (int) ((seed >>> 33) % bound);
    }

    /** Now and then a vertex outside 0..6. */
    private int someVertex() {
        return below(30) == 0 ? below(2) * 8 - 1 : below(7);
    }

    private static boolean inside(int v) {
        return 0 <= v && v <= 6;
    }

    private void call(int kind) {
        if (kind <= 4) {
            callArc();
        } else if (kind == 5) {
            callEnds();
        } else if (kind <= 9) {
            callAboutPath();
        } else if (kind <= 14) {
            callVertex();
        } else if (kind <= 21) {
            callAboutArc();
        } else {
            callAboutAll();
        }
    }

    private void callArc() {
        int u = someVertex();
        int v = someVertex();
        int weight = below(4) == 0 ? 0 : below(30) == 0 ? 51 : 1 + below(spread);
        boolean right = inside(u) && inside(v) && u != v && weight <= 50;
        Check.due("arc(" + u + ", " + v + ", " + weight + ")", x.arc(u, v, weight), right);
        if (right) {
            weights[u][v] = weight;
        }
    }

    private void callEnds() {
        int s = someVertex();
        int t = someVertex();
        boolean right = inside(s) && inside(t) && s != t;
        Check.due("ends(" + s + ", " + t + ")", x.ends(s, t), right);
        if (right) {
            source = s;
            target = t;
        }
    }

    private void callAboutPath() {
        int k = below(14) - 1;
        List<List<Integer>> first = firstPaths();
        boolean known = k >= 0 && k < first.size();
        Check.due("length(" + k + ")", x.length(k), known ? lengthOf(first.get(k)) : -2);
        Check.due("size(" + k + ")", x.size(k), known ? first.get(k).size() : -2);
    }

    private void callVertex() {
        int k = below(14) - 1;
        int i = below(9) - 1;
        List<List<Integer>> first = firstPaths();
        boolean known = k >= 0 && k < first.size() && i >= 0 && i < first.get(k).size();
        Check.due("vertex(" + k + ", " + i + ")", x.vertex(k, i), known ? first.get(k).get(i) : -2);
    }

    private void callAboutArc() {
        int u = someVertex();
        int v = someVertex();
        boolean right = inside(u) && inside(v);
        Check.due("weight(" + u + ", " + v + ")", x.weight(u, v), right ? weights[u][v] : -1);
        int passing = 0;
        for (List<Integer> path : firstPaths()) {
            passing += passes(path, u, v) ? 1 : 0;
        }
        Check.due("passing(" + u + ", " + v + ")", x.passing(u, v), right ? passing : -1);
        int least = -2;
        for (List<Integer> path : allPaths()) {
            if (!passes(path, u, v) && (least == -2 || lengthOf(path) < least)) {
                least = lengthOf(path);
            }
        }
        Check.due("avoiding(" + u + ", " + v + ")", x.avoiding(u, v), right ? least : -1);
    }

    private void callAboutAll() {
        Check.due("paths()", x.paths(), firstPaths().size());
        int everywhere = 0;
        for (int v = 0; v < 7; v++) {
            boolean onEvery = true;
            for (List<Integer> path : allPaths()) {
                onEvery &= path.contains(v);
            }
            everywhere |= onEvery ? 1 << v : 0;
        }
        Check.due("unavoidable()", x.unavoidable(), everywhere);
    }

    private List<List<Integer>> firstPaths() {
        List<List<Integer>> paths = allPaths();
        paths.sort(this::compare);
        return paths.subList(0, Math.min(12, paths.size()));
    }

    private int compare(List<Integer> a, List<Integer> b) {
        if (lengthOf(a) != lengthOf(b)) {
            return lengthOf(a) - lengthOf(b);
        }
        for (int i = 0; i < a.size() && i < b.size(); i++) {
            if (!a.get(i).equals(b.get(i))) {
                return a.get(i) - b.get(i);
            }
        }
        return 0;
    }

    private int lengthOf(List<Integer> path) {
        int sum = 0;
        for (int i = 1; i < path.size(); i++) {
            sum += weights[path.get(i - 1)][path.get(i)];
        }
        return sum;
    }

    private static boolean passes(List<Integer> path, int u, int v) {
        int at = path.indexOf(u);
        return at >= 0 && at + 1 < path.size() && path.get(at + 1) == v;
    }

    /** Listed from large vertices to small ones, so that only the sorting makes the order. */
    private List<List<Integer>> allPaths() {
        List<List<Integer>> paths = new ArrayList<>();
        List<Integer> begun = new ArrayList<>();
        begun.add(source);
        extend(begun, paths);
        return paths;
    }

    private void extend(List<Integer> begun, List<List<Integer>> paths) {
        int end = begun.get(begun.size() - 1);
        if (end == target) {
            paths.add(new ArrayList<>(begun));
            return;
        }
        for (int v = 6; v >= 0; v--) {
            if (weights[end][v] != 0 && !begun.contains(v)) {
                begun.add(v);
                extend(begun, paths);
                begun.remove(begun.size() - 1);
            }
        }
    }
}
