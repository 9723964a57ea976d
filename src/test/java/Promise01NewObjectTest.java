/** Promise 1: a new object. */
public final class Promise01NewObjectTest {
    public static void main(String[] args) {
        noArcs();
        sourceAndTarget();
        objectsAreApart();
        Check.end();
    }

    private static void noArcs() {
        Check.sentence("No arcs");
        YenKPaths x = new YenKPaths();
        for (int u = 0; u < 7; u++) {
            for (int v = 0; v < 7; v++) {
                Check.due("weight(" + u + ", " + v + ")", x.weight(u, v), 0);
                Check.due("passing(" + u + ", " + v + ")", x.passing(u, v), 0);
                Check.due("avoiding(" + u + ", " + v + ")", x.avoiding(u, v), YenKPaths.NONE);
            }
        }
        Check.due("paths()", x.paths(), 0);
        Check.due("unavoidable()", x.unavoidable(), 127);
        for (int k = 0; k < 12; k++) {
            Check.dueNoPath(x, k);
        }
    }

    private static void sourceAndTarget() {
        Check.sentence("the source is 0, the target 6");
        for (int u = 0; u < 7; u++) {
            for (int v = 0; v < 7; v++) {
                if (u != v) {
                    YenKPaths x = Sample.with(u, v, 5);
                    Check.due("paths() with the arc " + u + ", " + v, x.paths(), u == 0 && v == 6 ? 1 : 0);
                }
            }
        }
        Check.dueOnlyPath(Sample.with(0, 6, 5), 5, 0, 6);
    }

    private static void objectsAreApart() {
        Check.sentence("No arcs; the source is 0, the target 6: also behind another object");
        YenKPaths x = Sample.with(0, 6, 5);
        Check.due("ends(6, 0)", x.ends(6, 0), true);
        YenKPaths y = new YenKPaths();
        Check.due("weight(0, 6) of another", y.weight(0, 6), 0);
        Check.due("arc(0, 6, 9) of another", y.arc(0, 6, 9), true);
        Check.dueOnlyPath(y, 9, 0, 6);
        Check.due("weight(0, 6)", x.weight(0, 6), 5);
        Check.due("paths()", x.paths(), 0);
    }
}
