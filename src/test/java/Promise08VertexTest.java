/** Promise 8: vertex number i of path number k, or NONE; and the order of the paths. */
public final class Promise08VertexTest {
    public static void main(String[] args) {
        shorterFirst();
        smallerVertexFirst();
        twelveOfMany();
        wrongNumbers();
        Check.end();
    }

    private static void shorterFirst() {
        YenKPaths x = Check.with(0, 1, 9, 1, 6, 9, 0, 5, 1, 5, 6, 1, 0, 3, 5, 3, 6, 5, 5, 3, 1);
        Check.duePath(x, 0, 2, 0, 5, 6);
        Check.duePath(x, 1, 7, 0, 5, 3, 6);
        Check.duePath(x, 2, 10, 0, 3, 6);
        Check.duePath(x, 3, 18, 0, 1, 6);
        Check.dueNoPath(x, 4);
    }

    /** All five have length 6; the first place where they differ decides, not the size. */
    private static void smallerVertexFirst() {
        YenKPaths x = Check.with(5, 2, 6, 5, 1, 2, 1, 2, 4, 5, 6, 2, 6, 2, 4, 1, 4, 2, 4, 2, 2, 1, 0, 2, 0, 2, 2);
        Check.due("ends(5, 2)", x.ends(5, 2), true);
        Check.duePath(x, 0, 6, 5, 1, 0, 2);
        Check.duePath(x, 1, 6, 5, 1, 2);
        Check.duePath(x, 2, 6, 5, 1, 4, 2);
        Check.duePath(x, 3, 6, 5, 2);
        Check.duePath(x, 4, 6, 5, 6, 2);
        Check.dueNoPath(x, 5);
    }

    /** One arc, then five paths over one vertex, then the first six of those over two. */
    private static void twelveOfMany() {
        YenKPaths x = Check.complete(3);
        Check.duePath(x, 0, 3, 0, 6);
        for (int v = 1; v <= 5; v++) {
            Check.duePath(x, v, 6, 0, v, 6);
        }
        for (int v = 2; v <= 5; v++) {
            Check.duePath(x, 4 + v, 9, 0, 1, v, 6);
        }
        Check.duePath(x, 10, 9, 0, 2, 1, 6);
        Check.duePath(x, 11, 9, 0, 2, 3, 6);
        Check.dueNoPath(x, 12);
        // A path that comes last in the walk pushes the twelfth one out.
        Check.due("arc(0, 5, 1)", x.arc(0, 5, 1), true);
        Check.duePath(x, 1, 4, 0, 5, 6);
        Check.duePath(x, 6, 7, 0, 5, 1, 6);
        Check.duePath(x, 10, 9, 0, 1, 2, 6);
        Check.duePath(x, 11, 9, 0, 1, 3, 6);
    }

    private static void wrongNumbers() {
        YenKPaths x = Check.complete(3);
        for (int k : Check.OUTSIDE_RANKS) {
            Check.dueNoPath(x, k);
        }
        for (int k = 0; k < 12; k++) {
            for (int i : Check.OUTSIDE) {
                Check.due("vertex(" + k + ", " + i + ")", x.vertex(k, i), YenKPaths.NONE);
            }
        }
        Check.due("vertex(MAX, MAX)", x.vertex(Integer.MAX_VALUE, Integer.MAX_VALUE), YenKPaths.NONE);
        Check.due("vertex(MIN, MIN)", x.vertex(Integer.MIN_VALUE, Integer.MIN_VALUE), YenKPaths.NONE);
        Check.dueNoPath(new YenKPaths(), 0);
    }
}
