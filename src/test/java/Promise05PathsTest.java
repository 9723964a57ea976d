/** Promise 5: the number of paths, but 12 if there are more. */
public final class Promise05PathsTest {
    public static void main(String[] args) {
        aroundTwelve();
        noRepeatedVertex();
        followsTheArcs();
        Check.due("paths() with all arcs", Check.complete(50).paths(), 12);
        Check.end();
    }

    /** Arcs are added one by one: the number of paths grows to exactly 12, then past it. */
    private static void aroundTwelve() {
        YenKPaths x = Check.with(1, 6, 1, 2, 6, 1, 3, 6, 1, 0, 1, 1);
        Check.due("paths()", x.paths(), 1);
        // From 1, 2 and 3 every list of different ones of them leads on: 3 + 6 + 6 paths in all.
        int[] arcs = {0, 2, 0, 3, 1, 2, 2, 1, 1, 3, 3, 1, 2, 3, 3, 2};
        int[] due = {2, 3, 4, 5, 7, 9, 12, 12};
        for (int i = 0; i < due.length; i++) {
            Check.due("arc", x.arc(arcs[2 * i], arcs[2 * i + 1], 1), true);
            Check.due("paths() after arc " + i, x.paths(), due[i]);
        }
        Check.due("arc(3, 2, 0)", x.arc(3, 2, 0), true);
        Check.due("arc(2, 3, 0)", x.arc(2, 3, 0), true);
        Check.due("paths()", x.paths(), 9);
        Check.due("arc(2, 3, 1)", x.arc(2, 3, 1), true);
        Check.due("paths(), 12 of 12", x.paths(), 12);
        Check.due("arc(0, 6, 1)", x.arc(0, 6, 1), true);
        Check.due("paths(), 12 of 13", x.paths(), 12);
    }

    private static void noRepeatedVertex() {
        YenKPaths x = Check.with(0, 1, 1, 1, 2, 1, 2, 1, 1, 1, 0, 1, 2, 0, 1, 6, 1, 1, 6, 0, 1, 1, 6, 9);
        Check.due("paths()", x.paths(), 1);
        Check.duePath(x, 0, 10, 0, 1, 6);
        Check.dueNoPath(x, 1);
    }

    private static void followsTheArcs() {
        YenKPaths x = Check.with(0, 1, 1, 2, 6, 1, 6, 5, 1, 6, 0, 1);
        Check.due("paths()", x.paths(), 0);
        Check.due("arc(1, 2, 1)", x.arc(1, 2, 1), true);
        Check.due("paths()", x.paths(), 1);
        Check.due("ends(6, 0)", x.ends(6, 0), true);
        Check.due("paths() backwards", x.paths(), 1);
        Check.due("ends(5, 0)", x.ends(5, 0), true);
        Check.due("paths() from a dead end", x.paths(), 0);
    }
}
