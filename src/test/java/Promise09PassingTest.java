/** Promise 9: how many of the paths numbered 0 to 11 pass an arc. */
public final class Promise09PassingTest {
    public static void main(String[] args) {
        ordinary();
        onlyTheFirstTwelve();
        wrongVertices();
        Check.end();
    }

    private static void ordinary() {
        YenKPaths x = Check.with(0, 1, 1, 1, 6, 1, 0, 2, 1, 2, 1, 1, 2, 6, 1, 6, 0, 1, 3, 4, 1);
        Check.due("paths()", x.paths(), 3);
        Check.due("passing(1, 6)", x.passing(1, 6), 2);
        Check.due("passing(0, 2)", x.passing(0, 2), 2);
        Check.due("passing(0, 1)", x.passing(0, 1), 1);
        Check.due("passing(2, 1)", x.passing(2, 1), 1);
        Check.due("passing(1, 2), no arc", x.passing(1, 2), 0);
        Check.due("passing(6, 0), after the target", x.passing(6, 0), 0);
        Check.due("passing(3, 4), on no path", x.passing(3, 4), 0);
        Check.due("passing(0, 6), both on every path", x.passing(0, 6), 0);
        for (int u = 0; u < 7; u++) {
            Check.due("passing(" + u + ", " + u + ")", x.passing(u, u), 0);
        }
        Check.due("arc(0, 1, 0)", x.arc(0, 1, 0), true);
        Check.due("arc(2, 6, 0)", x.arc(2, 6, 0), true);
        Check.due("passing(1, 6) with one path", x.passing(1, 6), 1);
        Check.due("passing(2, 6) taken away", x.passing(2, 6), 0);
    }

    private static void onlyTheFirstTwelve() {
        YenKPaths x = Check.complete(3);
        Check.due("passing(0, 1)", x.passing(0, 1), 5);
        Check.due("passing(0, 2)", x.passing(0, 2), 3);
        Check.due("passing(0, 6)", x.passing(0, 6), 1);
        Check.due("passing(3, 6)", x.passing(3, 6), 3);
        Check.due("passing(2, 3)", x.passing(2, 3), 1);
        Check.due("passing(5, 4), later paths alone", x.passing(5, 4), 0);
        YenKPaths y = Check.complete(50);
        Check.due("arc(0, 1, 1)", y.arc(0, 1, 1), true);
        for (int v = 2; v <= 5; v++) {
            Check.due("arc(0, v, 0)", y.arc(0, v, 0), true);
        }
        Check.due("arc(0, 6, 0)", y.arc(0, 6, 0), true);
        Check.due("passing(0, 1) on all twelve", y.passing(0, 1), 12);
    }

    private static void wrongVertices() {
        for (YenKPaths x : new YenKPaths[] {new YenKPaths(), Check.complete(1)}) {
            for (int wrong : Check.OUTSIDE) {
                for (int right = 0; right < 7; right++) {
                    Check.due("passing(" + wrong + ", " + right + ")", x.passing(wrong, right), YenKPaths.BAD);
                    Check.due("passing(" + right + ", " + wrong + ")", x.passing(right, wrong), YenKPaths.BAD);
                }
                Check.due("passing(" + wrong + ", " + wrong + ")", x.passing(wrong, wrong), YenKPaths.BAD);
            }
        }
        Check.due("passing(0, 6) without arcs", new YenKPaths().passing(0, 6), 0);
    }
}
