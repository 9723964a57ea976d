/** Promise 12: order and limits. */
public final class Promise12OrderTest {
    public static void main(String[] args) {
        badBeforeNone();
        Check.end();
    }

    private static void badBeforeNone() {
        Check.sentence("avoiding: BAD is tested before NONE");
        // In neither object is there a path, so every vertex inside 0..6 is answered with NONE.
        for (YenKPaths x : new YenKPaths[] {new YenKPaths(), Sample.withoutAWayIn()}) {
            Check.dueBad("avoiding", x::avoiding);
            for (int u = 0; u < 7; u++) {
                for (int v = 0; v < 7; v++) {
                    Check.due("avoiding(" + u + ", " + v + ")", x.avoiding(u, v), YenKPaths.NONE);
                }
            }
        }
    }
}
