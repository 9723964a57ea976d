/** Promise 6: the length of path number k, or NONE. */
public final class Promise06LengthTest {
    public static void main(String[] args) {
        ordinary();
        longest();
        Check.end();
    }

    private static void ordinary() {
        YenKPaths x = Check.with(0, 6, 9, 0, 1, 2, 1, 6, 3, 1, 2, 4, 2, 6, 3);
        Check.due("length(0)", x.length(0), 5);
        Check.due("length(1)", x.length(1), 9);
        Check.due("length(2)", x.length(2), 9);
        for (int k = 3; k < 12; k++) {
            Check.due("length(" + k + ")", x.length(k), YenKPaths.NONE);
        }
        wrongNumbers(x);
        wrongNumbers(Check.complete(1));
        wrongNumbers(new YenKPaths());
    }

    private static void wrongNumbers(YenKPaths x) {
        for (int k : Check.OUTSIDE_RANKS) {
            Check.due("length(" + k + ")", x.length(k), YenKPaths.NONE);
        }
    }

    private static void longest() {
        YenKPaths x = Check.with(0, 5, 50, 5, 1, 50, 1, 4, 50, 4, 2, 50, 2, 3, 50, 3, 6, 50);
        Check.due("length(0)", x.length(0), 300);
    }
}
