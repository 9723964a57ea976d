/** Promise 11: the set of the vertices that are on every path. */
public final class Promise11UnavoidableTest {
    public static void main(String[] args) {
        noPath();
        ordinary();
        beyondTheFirstTwelve();
        Check.end();
    }

    private static void noPath() {
        Check.due("unavoidable() without arcs", new YenKPaths().unavoidable(), 127);
        Check.due("unavoidable() without a path", Check.with(0, 1, 1, 6, 1, 1).unavoidable(), 127);
    }

    private static void ordinary() {
        YenKPaths x = Check.with(0, 2, 1, 2, 3, 1, 3, 4, 1, 2, 4, 1, 4, 6, 1, 4, 5, 1, 5, 1, 1);
        Check.due("unavoidable()", x.unavoidable(), 1 + 4 + 16 + 64);
        Check.due("arc(2, 4, 0)", x.arc(2, 4, 0), true);
        Check.due("unavoidable()", x.unavoidable(), 1 + 4 + 8 + 16 + 64);
        Check.due("arc(0, 6, 50)", x.arc(0, 6, 50), true);
        Check.due("unavoidable()", x.unavoidable(), 1 + 64);
        Check.due("ends(2, 1)", x.ends(2, 1), true);
        Check.due("unavoidable()", x.unavoidable(), 4 + 8 + 16 + 32 + 2);
        Check.due("ends(1, 2)", x.ends(1, 2), true);
        Check.due("unavoidable()", x.unavoidable(), 127);
        YenKPaths all = Check.with(0, 5, 1, 5, 1, 1, 1, 4, 1, 4, 2, 1, 2, 3, 1, 3, 6, 1);
        Check.due("unavoidable() of one path over all", all.unavoidable(), 127);
    }

    /** Every path but the longest one passes vertex 1. */
    private static void beyondTheFirstTwelve() {
        YenKPaths x = Check.with(0, 1, 1);
        for (int u = 1; u <= 5; u++) {
            for (int v = 2; v <= 6; v++) {
                if (u != v) {
                    Check.due("arc(" + u + ", " + v + ", 1)", x.arc(u, v, 1), true);
                }
            }
        }
        Check.due("unavoidable()", x.unavoidable(), 1 + 2 + 64);
        Check.due("arc(0, 6, 50)", x.arc(0, 6, 50), true);
        Check.due("passing(0, 1)", x.passing(0, 1), 12);
        Check.due("unavoidable()", x.unavoidable(), 1 + 64);
    }
}
