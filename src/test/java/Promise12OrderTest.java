/** Promise 12: avoiding tests BAD before NONE. */
public final class Promise12OrderTest {
    public static void main(String[] args) {
        wrongVertices(new YenKPaths());
        wrongVertices(Check.with(0, 6, 1));
        wrongVertices(Check.complete(1));
        Check.due("avoiding(0, 6) without a path", new YenKPaths().avoiding(0, 6), YenKPaths.NONE);
        Check.due("avoiding(3, 3) without a path", new YenKPaths().avoiding(3, 3), YenKPaths.NONE);
        Check.end();
    }

    private static void wrongVertices(YenKPaths x) {
        for (int wrong : Check.OUTSIDE) {
            for (int right = 0; right < 7; right++) {
                Check.due("avoiding(" + wrong + ", " + right + ")", x.avoiding(wrong, right), YenKPaths.BAD);
                Check.due("avoiding(" + right + ", " + wrong + ")", x.avoiding(right, wrong), YenKPaths.BAD);
            }
            Check.due("avoiding(" + wrong + ", " + wrong + ")", x.avoiding(wrong, wrong), YenKPaths.BAD);
        }
    }
}
