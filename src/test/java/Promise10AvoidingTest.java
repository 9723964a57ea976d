/** Promise 10: the least length of a path that does not pass an arc. */
public final class Promise10AvoidingTest {
    public static void main(String[] args) {
        ordinary();
        beyondTheFirstTwelve();
        leavesTheObjectAsItWas();
        Check.end();
    }

    private static void ordinary() {
        YenKPaths x = Check.with(0, 1, 1, 1, 6, 1, 0, 2, 2, 2, 6, 2, 2, 1, 9);
        Check.due("avoiding(0, 1)", x.avoiding(0, 1), 4);
        Check.due("avoiding(1, 6)", x.avoiding(1, 6), 4);
        Check.due("avoiding(2, 6)", x.avoiding(2, 6), 2);
        Check.due("avoiding(1, 0), no arc", x.avoiding(1, 0), 2);
        Check.due("avoiding(0, 6), no arc", x.avoiding(0, 6), 2);
        Check.due("avoiding(6, 1), no arc", x.avoiding(6, 1), 2);
        for (int u = 0; u < 7; u++) {
            Check.due("avoiding(" + u + ", " + u + ")", x.avoiding(u, u), 2);
        }
        Check.due("arc(0, 1, 0)", x.arc(0, 1, 0), true);
        Check.due("avoiding(0, 2)", x.avoiding(0, 2), YenKPaths.NONE);
        Check.due("avoiding(2, 6)", x.avoiding(2, 6), 12);
        Check.due("avoiding(0, 1)", x.avoiding(0, 1), 4);
    }

    /** The first twelve paths all begin with the arc from 0 to 1. */
    private static void beyondTheFirstTwelve() {
        YenKPaths x = Check.with(0, 1, 1, 0, 6, 50);
        for (int u = 1; u <= 5; u++) {
            for (int v = 2; v <= 6; v++) {
                if (u != v) {
                    Check.due("arc(" + u + ", " + v + ", 1)", x.arc(u, v, 1), true);
                }
            }
        }
        Check.due("passing(0, 1)", x.passing(0, 1), 12);
        Check.due("avoiding(0, 1)", x.avoiding(0, 1), 50);
        Check.due("arc(0, 6, 0)", x.arc(0, 6, 0), true);
        Check.due("avoiding(0, 1)", x.avoiding(0, 1), YenKPaths.NONE);
    }

    private static void leavesTheObjectAsItWas() {
        YenKPaths x = Check.with(0, 1, 1, 1, 6, 1, 0, 6, 9);
        Check.due("avoiding(0, 1)", x.avoiding(0, 1), 9);
        Check.due("weight(0, 1)", x.weight(0, 1), 1);
        Check.due("avoiding(0, 1)", x.avoiding(0, 1), 9);
        Check.due("paths()", x.paths(), 2);
        Check.due("avoiding(0, 1)", x.avoiding(0, 1), 9);
        Check.due("unavoidable()", x.unavoidable(), 65);
        Check.due("avoiding(0, 1)", x.avoiding(0, 1), 9);
        Check.due("passing(0, 1)", x.passing(0, 1), 1);
        Check.due("avoiding(0, 1)", x.avoiding(0, 1), 9);
        Check.duePath(x, 0, 2, 0, 1, 6);
        Check.duePath(x, 1, 9, 0, 6);
    }
}
