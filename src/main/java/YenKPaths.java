/** The shortest paths without repeated vertices, one after the other. */
public final class YenKPaths {
    public static final int BAD = -1;
    public static final int NONE = -2;

    private static final int VERTICES = 7;
    private static final int CELLS = VERTICES * VERTICES;
    private static final int ALL_VERTICES = (1 << VERTICES) - 1;
    private static final int MAX_WEIGHT = 50;
    private static final int MAX_RANKED = 12;
    private static final int RANKED_PLACES = MAX_RANKED * VERTICES;
    private static final int NO_CELL = -1;

    // With all arcs present there are 326 trails short of the target, each left after 8 steps:
    // 2608 steps in all, so this bound is never what ends the walk.
    private static final int MAX_STEPS = 1000000;

    // The arc from u to v has cell u * VERTICES + v; weight 0 means that there is no arc.
    private final int[] weights = new int[CELLS];
    private int source = 0;
    private int target = 6;

    // The first paths in their order, made anew by each question, so that they are never stale.
    private final int[] rankedLength = new int[MAX_RANKED];
    private final int[] rankedSize = new int[MAX_RANKED];
    private final int[] rankedVertex = new int[RANKED_PLACES];
    private int ranked = 0;
    private int onEveryPath = ALL_VERTICES;

    // The list of vertices that the walk stands on; last is the place of its end. They all differ,
    // so there are never more than VERTICES of them and every place is inside these arrays.
    private final int[] trailVertex = new int[VERTICES];
    private final int[] trailLength = new int[VERTICES];
    private final int[] nextToTry = new int[VERTICES];
    private int last = -1;
    private int onTrail = 0;

    public YenKPaths() {
    }

    public boolean arc(int u, int v, int weight) {
        if (!isPair(u, v) || u == v || weight < 0 || weight > MAX_WEIGHT) {
            return false;
        }
        weights[u * VERTICES + v] = weight;
        return true;
    }

    public boolean ends(int s, int t) {
        if (!isPair(s, t) || s == t) {
            return false;
        }
        source = s;
        target = t;
        return true;
    }

    public int weight(int u, int v) {
        return isPair(u, v) ? weights[u * VERTICES + v] : BAD;
    }

    public int paths() {
        rankPaths(NO_CELL);
        return ranked;
    }

    public int length(int k) {
        rankPaths(NO_CELL);
        return isRanked(k) ? rankedLength[k] : NONE;
    }

    public int size(int k) {
        rankPaths(NO_CELL);
        return isRanked(k) ? rankedSize[k] : NONE;
    }

    public int vertex(int k, int i) {
        rankPaths(NO_CELL);
        if (!isRanked(k) || i < 0 || i >= rankedSize[k]) {
            return NONE;
        }
        return rankedVertex[k * VERTICES + i];
    }

    public int passing(int u, int v) {
        if (!isPair(u, v)) {
            return BAD;
        }
        rankPaths(NO_CELL);
        int count = 0;
        for (int k = 0; k < ranked; k++) {
            if (passes(k, u, v)) {
                count++;
            }
        }
        return count;
    }

    public int avoiding(int u, int v) {
        if (!isPair(u, v)) {
            return BAD;
        }
        rankPaths(u * VERTICES + v);
        return isRanked(0) ? rankedLength[0] : NONE;
    }

    public int unavoidable() {
        rankPaths(NO_CELL);
        return onEveryPath;
    }

    private static boolean isPair(int u, int v) {
        return u >= 0 && u < VERTICES && v >= 0 && v < VERTICES;
    }

    private boolean isRanked(int k) {
        return k >= 0 && k < ranked;
    }

    private boolean passes(int k, int u, int v) {
        int first = k * VERTICES;
        for (int i = 1; i < rankedSize[k]; i++) {
            if (rankedVertex[first + i - 1] == u && rankedVertex[first + i] == v) {
                return true;
            }
        }
        return false;
    }

    /** Walks all paths that do not use the forbidden cell and keeps the first ones in order. */
    private void rankPaths(int forbiddenCell) {
        ranked = 0;
        onEveryPath = ALL_VERTICES;
        last = -1;
        onTrail = 0;
        stepTo(source, 0);
        for (int step = 0; step < MAX_STEPS && last >= 0; step++) {
            int v = nextToTry[last];
            if (v == VERTICES) {
                stepBack();
            } else {
                nextToTry[last] = v + 1;
                tryVertex(v, forbiddenCell);
            }
        }
    }

    private void tryVertex(int v, int forbiddenCell) {
        int cell = trailVertex[last] * VERTICES + v;
        boolean taken = (onTrail & (1 << v)) != 0;
        if (taken || weights[cell] == 0 || cell == forbiddenCell) {
            return;
        }
        stepTo(v, trailLength[last] + weights[cell]);
        if (v == target) {
            notePath();
            stepBack();
        }
    }

    private void stepTo(int v, int lengthSoFar) {
        last++;
        trailVertex[last] = v;
        trailLength[last] = lengthSoFar;
        nextToTry[last] = 0;
        onTrail |= 1 << v;
    }

    private void stepBack() {
        onTrail &= ~(1 << trailVertex[last]);
        last--;
    }

    private void notePath() {
        onEveryPath &= onTrail;
        int rank = rankOf(trailLength[last]);
        if (rank == MAX_RANKED) {
            return;
        }
        if (ranked < MAX_RANKED) {
            ranked++;
        }
        for (int k = ranked - 1; k > rank; k--) {
            copyFromRankBefore(k);
        }
        placeTrail(rank);
    }

    /**
     * The walk tries smaller vertices first, so of two paths with the same length it meets the
     * smaller one first: a new path goes behind all that are not longer.
     */
    private int rankOf(int length) {
        int rank = ranked;
        while (rank > 0 && rankedLength[rank - 1] > length) {
            rank--;
        }
        return rank;
    }

    private void copyFromRankBefore(int k) {
        rankedLength[k] = rankedLength[k - 1];
        rankedSize[k] = rankedSize[k - 1];
        int first = k * VERTICES;
        for (int i = 0; i < VERTICES; i++) {
            rankedVertex[first + i] = rankedVertex[first + i - VERTICES];
        }
    }

    private void placeTrail(int rank) {
        rankedLength[rank] = trailLength[last];
        rankedSize[rank] = last + 1;
        int first = rank * VERTICES;
        for (int i = 0; i <= last; i++) {
            rankedVertex[first + i] = trailVertex[i];
        }
    }
}
