/** Promise 8: vertex. */
public final class Promise08VertexTest {
    public static void main(String[] args) {
        vertex();
        noSuchPath();
        numbers();
        places();
        Check.end();
    }

    private static void vertex() {
        Check.sentence("Vertex number i (from 0, the source) of path number k");
        YenKPaths x = Sample.with(0, 1, 9, 1, 6, 9, 0, 5, 1, 5, 6, 1, 0, 3, 5, 3, 6, 5, 5, 3, 1);
        Check.duePath(x, 0, 2, 0, 5, 6);
        Check.duePath(x, 1, 7, 0, 5, 3, 6);
        Check.duePath(x, 2, 10, 0, 3, 6);
        Check.duePath(x, 3, 18, 0, 1, 6);
        YenKPaths y = Sample.sparse();
        Check.duePath(y, 0, 6, 2, 0, 6, 4);
        Check.duePath(y, 1, 6, 2, 6, 4);
        Check.duePath(y, 2, 9, 2, 0, 4);
        Check.duePath(y, 3, 9, 2, 4);
        Check.duePath(y, 4, 61, 2, 6, 0, 4);
        // The first vertex is the source and the last the target, wherever they are.
        YenKPaths all = Sample.complete(1);
        for (int s = 0; s < 7; s++) {
            int t = (s + 4) % 7;
            Check.due("ends(" + s + ", " + t + ")", all.ends(s, t), true);
            for (int k = 0; k < 12; k++) {
                Check.due("vertex(" + k + ", 0)", all.vertex(k, 0), s);
                Check.due("vertex(" + k + ", last)", all.vertex(k, k == 0 ? 1 : k <= 5 ? 2 : 3), t);
            }
        }
    }

    private static void noSuchPath() {
        Check.sentence("NONE if there is no such path");
        for (int number : new int[] {0, 1, 2, 10, 11, 12, 13, 31}) {
            YenKPaths x = Sample.withPaths(number);
            for (int k = 0; k < 12; k++) {
                for (int i = 0; i < 7; i++) {
                    boolean none = x.vertex(k, i) == YenKPaths.NONE;
                    if (k >= number) {
                        Check.due("vertex(" + k + ", " + i + ") is none of " + number, none, true);
                    } else if (i < 2) {
                        Check.due("vertex(" + k + ", " + i + ") is none of " + number, none, false);
                    }
                }
            }
        }
        YenKPaths x = Sample.chain(1);
        Check.due("vertex(0, 6)", x.vertex(0, 6), 6);
        Check.due("arc(2, 3, 0)", x.arc(2, 3, 0), true);
        Check.dueNoPath(x, 0);
    }

    private static void numbers() {
        Check.sentence("NONE if k is outside 0..11");
        for (YenKPaths x : Sample.ofFewAndMany()) {
            for (int i = -1; i <= 7; i++) {
                int place = i;
                Check.dueNoneOutside("vertex " + i + " of number ", k -> x.vertex(k, place));
            }
        }
        Check.due("vertex(0, 1), just inside", Sample.complete(3).vertex(0, 1), 6);
        Check.due("vertex(11, 1), just inside", Sample.complete(3).vertex(11, 1), 2);
    }

    private static void places() {
        Check.sentence("NONE if i is outside 0 .. size(k) - 1");
        int[] noPlaces = {-1, -2, -7, 7, 8, 14, 32, 256, 65536, Integer.MAX_VALUE - 1, Integer.MAX_VALUE,
            Integer.MIN_VALUE, Integer.MIN_VALUE + 1};
        YenKPaths x = Sample.complete(3);
        for (int k = 0; k < 12; k++) {
            int size = k == 0 ? 2 : k <= 5 ? 3 : 4;
            Check.due("vertex(" + k + ", size - 1)", x.vertex(k, size - 1), 6);
            for (int i = size; i < 7; i++) {
                Check.due("vertex(" + k + ", " + i + ")", x.vertex(k, i), YenKPaths.NONE);
            }
            for (int i : noPlaces) {
                Check.due("vertex(" + k + ", " + i + ")", x.vertex(k, i), YenKPaths.NONE);
            }
            // Places of other paths, if the paths stood one behind the other, seven places each.
            for (int other = 0; other < 12; other++) {
                if (other != k) {
                    int i = 7 * (other - k);
                    Check.due("vertex(" + k + ", " + i + ")", x.vertex(k, i), YenKPaths.NONE);
                }
            }
        }
        pathsOfEverySize();
        Check.due("vertex(MAX, MAX)", x.vertex(Integer.MAX_VALUE, Integer.MAX_VALUE), YenKPaths.NONE);
        Check.due("vertex(MIN, MIN)", x.vertex(Integer.MIN_VALUE, Integer.MIN_VALUE), YenKPaths.NONE);
    }

    /** Sizes 2 to 7; a shorter path follows a longer one in the same object. */
    private static void pathsOfEverySize() {
        YenKPaths x = Sample.chain(1);
        int[] chain = {0, 5, 1, 4, 2, 3, 6};
        for (int size = 7; size >= 2; size--) {
            if (size < 7) {
                Check.due("arc to the target", x.arc(chain[size - 2], 6, 1), true);
            }
            Check.due("size(0)", x.size(0), size);
            Check.due("vertex(0, " + (size - 1) + ")", x.vertex(0, size - 1), 6);
            Check.due("vertex(0, " + (size - 2) + ")", x.vertex(0, size - 2), chain[size - 2]);
            Check.due("vertex(0, " + size + ")", x.vertex(0, size), YenKPaths.NONE);
        }
    }
}
