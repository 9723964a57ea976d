/** Promise 9: passing. */
public final class Promise09PassingTest {
    public static void main(String[] args) {
        fewPaths();
        firstTwelve();
        noPath();
        bad();
        Check.end();
    }

    private static void fewPaths() {
        Check.sentence("The number of the paths that pass the arc from u to v");
        YenKPaths x = Sample.with(0, 1, 1, 1, 6, 1, 0, 2, 1, 2, 1, 1, 2, 6, 1, 6, 0, 1, 3, 4, 1);
        Check.due("passing(1, 6)", x.passing(1, 6), 2);
        Check.due("passing(0, 2)", x.passing(0, 2), 2);
        Check.due("passing(0, 1)", x.passing(0, 1), 1);
        Check.due("passing(2, 1)", x.passing(2, 1), 1);
        Check.due("passing(1, 2), no arc", x.passing(1, 2), 0);
        Check.due("passing(6, 0), behind the target", x.passing(6, 0), 0);
        Check.due("passing(3, 4), on no path", x.passing(3, 4), 0);
        Check.due("passing(0, 6), not one after the other", x.passing(0, 6), 0);
        for (int v = 0; v < 7; v++) {
            Check.due("passing(" + v + ", " + v + ")", x.passing(v, v), 0);
        }
        Check.due("arc(0, 1, 0)", x.arc(0, 1, 0), true);
        Check.due("arc(2, 6, 0)", x.arc(2, 6, 0), true);
        Check.due("passing(1, 6) with one path", x.passing(1, 6), 1);
        Check.due("passing(2, 6) taken away", x.passing(2, 6), 0);
        YenKPaths chain = Sample.chain(1);
        Check.due("passing(0, 5), the first arc", chain.passing(0, 5), 1);
        Check.due("passing(3, 6), the last arc", chain.passing(3, 6), 1);
        Check.due("passing(6, 0), the end and the beginning", chain.passing(6, 0), 0);
    }

    private static void firstTwelve() {
        Check.sentence("of the paths numbered 0 to 11");
        for (int number = 0; number <= 15; number++) {
            YenKPaths x = Sample.withOneAside(number);
            Check.due("passing(0, 1) of " + number, x.passing(0, 1), number < 12 ? number : 12);
            Check.due("passing(0, 6) behind " + number, x.passing(0, 6), number < 12 ? 1 : 0);
        }
        // All of the same length: 8 later paths begin with 0, 2, and the 13th with 0, 1, 4.
        YenKPaths x = Sample.withPaths(31);
        int[][] due = {
            {0, 12, 0, 0, 0, 0, 0},
            {0, 0, 8, 4, 0, 0, 0},
            {0, 0, 0, 4, 2, 1, 1},
            {0, 0, 0, 0, 4, 2, 2},
            {0, 0, 0, 0, 0, 3, 3},
            {0, 0, 0, 0, 0, 0, 6},
            {0, 0, 0, 0, 0, 0, 0}};
        for (int u = 0; u < 7; u++) {
            for (int v = 0; v < 7; v++) {
                Check.due("passing(" + u + ", " + v + ")", x.passing(u, v), due[u][v]);
            }
        }
        YenKPaths all = Sample.complete(3);
        Check.due("passing(0, 1)", all.passing(0, 1), 5);
        Check.due("passing(0, 2)", all.passing(0, 2), 3);
        Check.due("passing(0, 6)", all.passing(0, 6), 1);
        Check.due("passing(3, 6)", all.passing(3, 6), 3);
        Check.due("passing(2, 3), on number 11", all.passing(2, 3), 1);
        Check.due("passing(2, 4), on the one behind it", all.passing(2, 4), 0);
    }

    private static void noPath() {
        Check.sentence("The number of the paths: 0 if there is none");
        YenKPaths none = new YenKPaths();
        YenKPaths gap = Sample.withoutAWayIn();
        for (int u = 0; u < 7; u++) {
            for (int v = 0; v < 7; v++) {
                Check.due("passing(" + u + ", " + v + ") without arcs", none.passing(u, v), 0);
                Check.due("passing(" + u + ", " + v + ") without a path", gap.passing(u, v), 0);
            }
        }
    }

    private static void bad() {
        Check.sentence("BAD if u or v is outside 0..6");
        for (YenKPaths x : new YenKPaths[] {new YenKPaths(), Sample.complete(1)}) {
            Check.dueBad("passing", x::passing);
        }
    }
}
