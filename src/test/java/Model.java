import java.util.ArrayList;
import java.util.Arrays;
import java.util.List;

/**
 * The document, read as plainly as can be: all paths are listed, then sorted. It answers what is due
 * from an object after the same calls.
 */
final class Model {
    private final int[][] weights = new int[7][7];
    private int source = 0;
    private int target = 6;
    // Listing is slow, so the list is kept until a change empties it.
    private List<int[]> sorted = null;

    static boolean inside(int v) {
        return 0 <= v && v <= 6;
    }

    boolean arc(int u, int v, int weight) {
        if (!inside(u) || !inside(v) || u == v || weight < 0 || weight > 50) {
            return false;
        }
        weights[u][v] = weight;
        sorted = null;
        return true;
    }

    boolean ends(int s, int t) {
        if (!inside(s) || !inside(t) || s == t) {
            return false;
        }
        source = s;
        target = t;
        sorted = null;
        return true;
    }

    int weight(int u, int v) {
        return inside(u) && inside(v) ? weights[u][v] : YenKPaths.BAD;
    }

    int paths() {
        return Math.min(12, allPaths());
    }

    int length(int k) {
        return has(k) ? lengthOf(all().get(k)) : YenKPaths.NONE;
    }

    int size(int k) {
        return has(k) ? all().get(k).length : YenKPaths.NONE;
    }

    int vertex(int k, int i) {
        return has(k) && 0 <= i && i < size(k) ? all().get(k)[i] : YenKPaths.NONE;
    }

    int passing(int u, int v) {
        return inside(u) && inside(v) ? passingAmongFirst(12, u, v) : YenKPaths.BAD;
    }

    int passingAmongFirst(int number, int u, int v) {
        int count = 0;
        for (int k = 0; k < number && k < allPaths(); k++) {
            count += passes(all().get(k), u, v) ? 1 : 0;
        }
        return count;
    }

    int avoiding(int u, int v) {
        if (!inside(u) || !inside(v)) {
            return YenKPaths.BAD;
        }
        for (int[] path : all()) {
            if (!passes(path, u, v)) {
                return lengthOf(path);
            }
        }
        return YenKPaths.NONE;
    }

    int unavoidable() {
        return sharedByFirst(allPaths());
    }

    int sharedByFirst(int number) {
        int shared = 127;
        for (int k = 0; k < number && k < allPaths(); k++) {
            int set = 0;
            for (int v : all().get(k)) {
                set |= 1 << v;
            }
            shared &= set;
        }
        return shared;
    }

    /** The number of paths, however many there are. */
    int allPaths() {
        return all().size();
    }

    private boolean has(int k) {
        return 0 <= k && k < paths();
    }

    private static boolean passes(int[] path, int u, int v) {
        for (int i = 1; i < path.length; i++) {
            if (path[i - 1] == u && path[i] == v) {
                return true;
            }
        }
        return false;
    }

    private int lengthOf(int[] path) {
        int sum = 0;
        for (int i = 1; i < path.length; i++) {
            sum += weights[path[i - 1]][path[i]];
        }
        return sum;
    }

    private List<int[]> all() {
        if (sorted == null) {
            sorted = new ArrayList<>();
            extend(new int[] {source}, sorted);
            sorted.sort(this::compare);
        }
        return sorted;
    }

    /** From large vertices to small ones, so that only the sorting makes the order. */
    private void extend(int[] begun, List<int[]> found) {
        int end = begun[begun.length - 1];
        if (end == target) {
            found.add(begun);
            return;
        }
        for (int v = 6; v >= 0; v--) {
            if (weights[end][v] != 0 && !contains(begun, v)) {
                int[] longer = Arrays.copyOf(begun, begun.length + 1);
                longer[begun.length] = v;
                extend(longer, found);
            }
        }
    }

    private static boolean contains(int[] list, int v) {
        for (int w : list) {
            if (w == v) {
                return true;
            }
        }
        return false;
    }

    private int compare(int[] a, int[] b) {
        if (lengthOf(a) != lengthOf(b)) {
            return lengthOf(a) - lengthOf(b);
        }
        for (int i = 0; i < a.length && i < b.length; i++) {
            if (a[i] != b[i]) {
                return a[i] - b[i];
            }
        }
        return 0;
    }
}
