/** Promise 1: no arcs; the source is 0, the target 6. */
public final class Promise01NewObjectTest {
    public static void main(String[] args) {
        noArcs();
        sourceAndTarget();
        objectsAreApart();
        Check.end();
    }

    private static void noArcs() {
        YenKPaths x = new YenKPaths();
        for (int u = 0; u < 7; u++) {
            for (int v = 0; v < 7; v++) {
                Check.due("weight(" + u + ", " + v + ")", x.weight(u, v), 0);
            }
        }
        Check.due("paths()", x.paths(), 0);
        Check.dueNoPath(x, 0);
    }

    private static void sourceAndTarget() {
        for (int u = 0; u < 7; u++) {
            for (int v = 0; v < 7; v++) {
                if (u != v) {
                    YenKPaths x = Check.with(u, v, 5);
                    Check.due("paths() with the arc " + u + ", " + v, x.paths(), u == 0 && v == 6 ? 1 : 0);
                }
            }
        }
        Check.duePath(Check.with(0, 6, 5), 0, 5, 0, 6);
    }

    private static void objectsAreApart() {
        YenKPaths x = Check.with(0, 6, 5);
        Check.due("ends(6, 0)", x.ends(6, 0), true);
        YenKPaths y = new YenKPaths();
        Check.due("weight(0, 6) of another", y.weight(0, 6), 0);
        Check.due("arc(0, 6, 9) of another", y.arc(0, 6, 9), true);
        Check.due("paths() of another", y.paths(), 1);
        Check.due("weight(0, 6)", x.weight(0, 6), 5);
    }
}
