/** Promise 7: the number of vertices of path number k, or NONE. */
public final class Promise07SizeTest {
    public static void main(String[] args) {
        YenKPaths x = Check.with(0, 5, 1, 5, 1, 1, 1, 4, 1, 4, 2, 1, 2, 3, 1, 3, 6, 1, 0, 6, 50, 1, 6, 20);
        Check.due("size(0)", x.size(0), 7);
        Check.due("size(1)", x.size(1), 4);
        Check.due("size(2)", x.size(2), 2);
        for (int k = 3; k < 12; k++) {
            Check.due("size(" + k + ")", x.size(k), YenKPaths.NONE);
        }
        wrongNumbers(x);
        wrongNumbers(Check.complete(1));
        wrongNumbers(new YenKPaths());
        Check.due("size(0) without arcs", new YenKPaths().size(0), YenKPaths.NONE);
        Check.end();
    }

    private static void wrongNumbers(YenKPaths x) {
        for (int k : Check.OUTSIDE_RANKS) {
            Check.due("size(" + k + ")", x.size(k), YenKPaths.NONE);
        }
    }
}
