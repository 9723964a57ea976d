/** Promise 11: unavoidable. */
public final class Promise11UnavoidableTest {
    public static void main(String[] args) {
        onEveryPath();
        everyPathCounts();
        bits();
        noPath();
        Check.end();
    }

    private static void onEveryPath() {
        Check.sentence("The set of the vertices that are on every path");
        YenKPaths x = Sample.with(0, 2, 1, 2, 3, 1, 3, 4, 1, 2, 4, 1, 4, 6, 1, 4, 5, 1, 5, 1, 1);
        Check.due("unavoidable()", x.unavoidable(), 1 + 4 + 16 + 64);
        Check.due("arc(2, 4, 0)", x.arc(2, 4, 0), true);
        Check.due("unavoidable()", x.unavoidable(), 1 + 4 + 8 + 16 + 64);
        Check.due("arc(0, 6, 50)", x.arc(0, 6, 50), true);
        Check.due("unavoidable()", x.unavoidable(), 1 + 64);
        Check.due("ends(2, 1)", x.ends(2, 1), true);
        Check.due("unavoidable()", x.unavoidable(), 4 + 8 + 16 + 32 + 2);
        Check.due("unavoidable() of one path over all", Sample.chain(50).unavoidable(), 127);
        Check.due("unavoidable() of one arc", Sample.with(0, 6, 1).unavoidable(), 65);
        YenKPaths all = Sample.complete(1);
        for (int s = 0; s < 7; s++) {
            for (int t = 0; t < 7; t++) {
                if (s != t) {
                    Check.due("ends(" + s + ", " + t + ")", all.ends(s, t), true);
                    Check.due("unavoidable() with all arcs", all.unavoidable(), 1 << s | 1 << t);
                }
            }
        }
    }

    private static void everyPathCounts() {
        Check.sentence("on every path: also on those behind number 11");
        for (int number = 1; number <= 15; number++) {
            YenKPaths x = Sample.withOneAside(number);
            Check.due("unavoidable() of " + number + " and one", x.unavoidable(), 1 + 64);
            Check.due("arc(0, 6, 0)", x.arc(0, 6, 0), true);
            Check.due("unavoidable() has 1", x.unavoidable() & 2, 2);
        }
        // Vertex 1 is on the first twelve of these, all of the same length, and not on the others.
        Check.due("unavoidable()", Sample.withPaths(31).unavoidable(), 1 + 64);
    }

    private static void bits() {
        Check.sentence("(bit v speaks of vertex v)");
        for (int v = 1; v <= 5; v++) {
            Check.due("unavoidable() over " + v, Sample.with(0, v, 1, v, 6, 1).unavoidable(), 1 + 64 + (1 << v));
        }
        YenKPaths x = Sample.with(3, 0, 1, 0, 4, 1, 3, 6, 1, 6, 5, 1);
        Check.due("ends(3, 4)", x.ends(3, 4), true);
        Check.due("unavoidable() over 0", x.unavoidable(), 1 + 8 + 16);
        Check.due("ends(3, 5)", x.ends(3, 5), true);
        Check.due("unavoidable() over 6", x.unavoidable(), 8 + 32 + 64);
    }

    private static void noPath() {
        Check.sentence("all seven if there is no path");
        Check.due("unavoidable() without arcs", new YenKPaths().unavoidable(), 127);
        Check.due("unavoidable() without a path", Sample.with(0, 1, 1, 6, 1, 1).unavoidable(), 127);
        YenKPaths x = Sample.with(0, 6, 1);
        Check.due("ends(6, 0)", x.ends(6, 0), true);
        Check.due("unavoidable() backwards", x.unavoidable(), 127);
        Check.due("ends(0, 6)", x.ends(0, 6), true);
        Check.due("unavoidable() forwards", x.unavoidable(), 65);
        Check.due("arc(0, 6, 0)", x.arc(0, 6, 0), true);
        Check.due("unavoidable() taken away", x.unavoidable(), 127);
        Check.due("unavoidable() with no arc to the target", Sample.withoutAWayIn().unavoidable(), 127);
    }
}
