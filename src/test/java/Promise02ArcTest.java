/** Promise 2: arc sets or takes away, and refuses wrong inputs without a change. */
public final class Promise02ArcTest {
    public static void main(String[] args) {
        everyArcIsItsOwn();
        edgesOfTheWeight();
        takesAway();
        refusesWrongVertices();
        refusesLoops();
        refusesWrongWeights();
        Check.end();
    }

    private static int weightOf(int u, int v) {
        return u == v ? 0 : (u * 7 + v) % 50 + 1;
    }

    private static YenKPaths full() {
        YenKPaths x = new YenKPaths();
        for (int u = 0; u < 7; u++) {
            for (int v = 0; v < 7; v++) {
                if (u != v) {
                    Check.due("arc(" + u + ", " + v + ")", x.arc(u, v, weightOf(u, v)), true);
                }
            }
        }
        return x;
    }

    private static void dueFull(String after, YenKPaths x) {
        for (int u = 0; u < 7; u++) {
            for (int v = 0; v < 7; v++) {
                Check.due("weight(" + u + ", " + v + ") " + after, x.weight(u, v), weightOf(u, v));
            }
        }
    }

    private static void everyArcIsItsOwn() {
        dueFull("after all arcs", full());
    }

    private static void edgesOfTheWeight() {
        YenKPaths x = new YenKPaths();
        for (int weight : new int[] {1, 50, 2, 49, 0, 50, 1}) {
            Check.due("arc(0, 6, " + weight + ")", x.arc(0, 6, weight), true);
            Check.due("weight(0, 6)", x.weight(0, 6), weight);
            Check.due("length(0)", x.length(0), weight == 0 ? YenKPaths.NONE : weight);
        }
        Check.due("weight(6, 0)", x.weight(6, 0), 0);
    }

    private static void takesAway() {
        YenKPaths x = Check.with(0, 6, 5, 6, 0, 3, 0, 1, 2);
        Check.due("arc(0, 6, 0)", x.arc(0, 6, 0), true);
        Check.due("weight(0, 6)", x.weight(0, 6), 0);
        Check.due("weight(6, 0)", x.weight(6, 0), 3);
        Check.due("weight(0, 1)", x.weight(0, 1), 2);
        Check.due("paths()", x.paths(), 0);
        Check.due("arc(0, 6, 0) with no arc", x.arc(0, 6, 0), true);
        Check.due("arc(3, 4, 0) with no arc", x.arc(3, 4, 0), true);
    }

    private static void refusesWrongVertices() {
        YenKPaths x = full();
        for (int wrong : Check.OUTSIDE) {
            for (int right = 0; right < 7; right++) {
                Check.due("arc(" + wrong + ", " + right + ", 50)", x.arc(wrong, right, 50), false);
                Check.due("arc(" + right + ", " + wrong + ", 50)", x.arc(right, wrong, 50), false);
                Check.due("arc(" + right + ", " + wrong + ", 0)", x.arc(right, wrong, 0), false);
            }
            Check.due("arc(" + wrong + ", " + wrong + ", 1)", x.arc(wrong, wrong, 1), false);
        }
        dueFull("after wrong vertices", x);
    }

    private static void refusesLoops() {
        YenKPaths x = full();
        for (int u = 0; u < 7; u++) {
            Check.due("arc(" + u + ", " + u + ", 1)", x.arc(u, u, 1), false);
            Check.due("arc(" + u + ", " + u + ", 0)", x.arc(u, u, 0), false);
        }
        dueFull("after loops", x);
    }

    private static void refusesWrongWeights() {
        YenKPaths x = full();
        for (int weight : new int[] {-1, 51, -50, 100, Integer.MIN_VALUE, Integer.MAX_VALUE}) {
            Check.due("arc(0, 6, " + weight + ")", x.arc(0, 6, weight), false);
            Check.due("arc(5, 2, " + weight + ")", x.arc(5, 2, weight), false);
        }
        dueFull("after wrong weights", x);
    }
}
