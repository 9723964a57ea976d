/** Arguments and graphs that the tests share. */
final class Sample {
    private static final int MIN = Integer.MIN_VALUE;
    private static final int MAX = Integer.MAX_VALUE;

    /**
     * No vertices: just outside, further out, and far out. Some would be vertices if they were cut
     * to fewer bits, if only their last five bits were shifted by, or if 7 times them wrapped round.
     */
    static final int[] NO_VERTICES = {-1, 7, -2, 8, -7, 13, 32, 38, -26, 49, 256, 262, 65536, 65542,
        613566757, -613566756, MAX - 1, MAX, MIN, MIN + 1};

    /** No path numbers, chosen in the same way. */
    static final int[] NO_NUMBERS = {-1, 12, -2, 13, -12, 32, 84, 256, 267, 65536, 65547,
        613566757, -613566756, MAX - 1, MAX, MIN, MIN + 1};

    /** No weights, chosen in the same way. */
    static final int[] NO_WEIGHTS = {-1, 51, -2, 52, -50, 100, 256, 257, 306, 65536, 65541,
        MAX - 1, MAX, MIN, MIN + 1};

    private Sample() {
    }

    private static void set(YenKPaths x, int u, int v, int weight) {
        Check.due("arc(" + u + ", " + v + ", " + weight + ")", x.arc(u, v, weight), true);
    }

    /** A new object with arcs given as u, v, weight, u, v, weight, ... */
    static YenKPaths with(int... arcs) {
        YenKPaths x = new YenKPaths();
        for (int i = 0; i < arcs.length; i += 3) {
            set(x, arcs[i], arcs[i + 1], arcs[i + 2]);
        }
        return x;
    }

    /** All 42 arcs, with the same weight: 326 paths. */
    static YenKPaths complete(int weight) {
        YenKPaths x = new YenKPaths();
        for (int u = 0; u < 7; u++) {
            for (int v = 0; v < 7; v++) {
                if (u != v) {
                    set(x, u, v, weight);
                }
            }
        }
        return x;
    }

    /** All arcs but those to the target: no path. */
    static YenKPaths withoutAWayIn() {
        YenKPaths x = complete(1);
        for (int u = 0; u < 6; u++) {
            set(x, u, 6, 0);
        }
        return x;
    }

    static int variedWeight(int u, int v) {
        return u == v ? 0 : (u * 7 + v) % 50 + 1;
    }

    /** All 42 arcs, each with a weight of its own, from 5 to 3: neither end is that of a new object. */
    static YenKPaths varied() {
        YenKPaths x = new YenKPaths();
        for (int u = 0; u < 7; u++) {
            for (int v = 0; v < 7; v++) {
                if (u != v) {
                    set(x, u, v, variedWeight(u, v));
                }
            }
        }
        Check.due("ends(5, 3)", x.ends(5, 3), true);
        return x;
    }

    /** Five paths from 2 to 4, so that most path numbers are of no path. */
    static YenKPaths sparse() {
        YenKPaths x = with(2, 4, 9, 2, 0, 1, 0, 4, 8, 2, 6, 3, 6, 4, 3, 0, 6, 2, 6, 0, 50);
        Check.due("ends(2, 4)", x.ends(2, 4), true);
        return x;
    }

    /**
     * Just so many paths (0 to 31), all of length 6. Arcs lead from smaller to larger vertices
     * alone, so 2 to the power v - 1 paths lead to vertex v; the binary digits of the number say
     * which vertices have an arc to 6. An arc weighs what its vertices differ by.
     */
    static YenKPaths withPaths(int number) {
        YenKPaths x = new YenKPaths();
        for (int v = 1; v <= 5; v++) {
            for (int u = 0; u < v; u++) {
                set(x, u, v, v - u);
            }
            if ((number >> (v - 1) & 1) != 0) {
                set(x, v, 6, 6 - v);
            }
        }
        return x;
    }

    /**
     * Just so many paths (0 to 15) over the arc from 0 to 1, all of length 6, and behind them one
     * of length 50 that does not pass vertex 1.
     */
    static YenKPaths withOneAside(int number) {
        YenKPaths x = with(0, 1, 1, 0, 6, 50);
        for (int v = 2; v <= 5; v++) {
            for (int u = 1; u < v; u++) {
                set(x, u, v, v - u);
            }
            if ((number >> (v - 2) & 1) != 0) {
                set(x, v, 6, 6 - v);
            }
        }
        return x;
    }

    /** No path, fewer than 12, just 12, and more. */
    static YenKPaths[] ofFewAndMany() {
        return new YenKPaths[] {new YenKPaths(), withoutAWayIn(), sparse(), withPaths(11), withPaths(12),
            withPaths(13), complete(1)};
    }

    /** One path over all seven vertices, each arc with this weight. */
    static YenKPaths chain(int weight) {
        return with(0, 5, weight, 5, 1, weight, 1, 4, weight, 4, 2, weight, 2, 3, weight, 3, 6, weight);
    }
}
