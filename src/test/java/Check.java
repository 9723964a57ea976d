/** Counts the answers that are not the ones due, and ends a test with exit code 1 if there was one. */
final class Check {
    static final int[] OUTSIDE = {-1, 7, 8, 49, -7, Integer.MIN_VALUE, Integer.MAX_VALUE};
    static final int[] OUTSIDE_RANKS = {-1, 12, 13, 84, -12, Integer.MIN_VALUE, Integer.MAX_VALUE};

    private static int asked = 0;
    private static int wrong = 0;

    private Check() {
    }

    static void due(String call, int got, int want) {
        asked++;
        if (got != want) {
            wrong++;
            System.out.println(call + " answered " + got + ", due is " + want);
        }
    }

    static void due(String call, boolean got, boolean want) {
        due(call, got ? 1 : 0, want ? 1 : 0);
    }

    /** Asks for each vertex of path number k, its size, and the places just outside it. */
    static void duePath(YenKPaths x, int k, int length, int... vertices) {
        due("length(" + k + ")", x.length(k), length);
        due("size(" + k + ")", x.size(k), vertices.length);
        due("vertex(" + k + ", -1)", x.vertex(k, -1), YenKPaths.NONE);
        for (int i = 0; i < vertices.length; i++) {
            due("vertex(" + k + ", " + i + ")", x.vertex(k, i), vertices[i]);
        }
        due("vertex(" + k + ", size)", x.vertex(k, vertices.length), YenKPaths.NONE);
    }

    static void dueNoPath(YenKPaths x, int k) {
        due("length(" + k + ")", x.length(k), YenKPaths.NONE);
        due("size(" + k + ")", x.size(k), YenKPaths.NONE);
        for (int i = -1; i <= 7; i++) {
            due("vertex(" + k + ", " + i + ")", x.vertex(k, i), YenKPaths.NONE);
        }
    }

    /** Sets arcs given as u, v, weight, u, v, weight, ... */
    static YenKPaths with(int... arcs) {
        YenKPaths x = new YenKPaths();
        for (int i = 0; i < arcs.length; i += 3) {
            due("arc(" + arcs[i] + ", " + arcs[i + 1] + ", " + arcs[i + 2] + ")",
                    x.arc(arcs[i], arcs[i + 1], arcs[i + 2]), true);
        }
        return x;
    }

    /** All 42 arcs, with the same weight. */
    static YenKPaths complete(int weight) {
        YenKPaths x = new YenKPaths();
        for (int u = 0; u < 7; u++) {
            for (int v = 0; v < 7; v++) {
                if (u != v) {
                    due("arc(" + u + ", " + v + ", " + weight + ")", x.arc(u, v, weight), true);
                }
            }
        }
        return x;
    }

    static void end() {
        System.out.println(asked + " answers, " + wrong + " not as due");
        if (wrong != 0 || asked == 0) {
            System.exit(1);
        }
    }
}
