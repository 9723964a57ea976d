/** Promise 7: size. */
public final class Promise07SizeTest {
    public static void main(String[] args) {
        size();
        noSuchPath();
        numbers();
        Check.end();
    }

    private static void size() {
        Check.sentence("The number of vertices of path number k");
        Check.due("size(0), the least", Sample.with(0, 6, 1).size(0), 2);
        Check.due("size(0), the greatest", Sample.chain(1).size(0), 7);
        // The longest in vertices is the shortest in length.
        YenKPaths x = Sample.chain(1);
        Check.due("arc(0, 6, 50)", x.arc(0, 6, 50), true);
        Check.due("arc(1, 6, 20)", x.arc(1, 6, 20), true);
        Check.due("size(0)", x.size(0), 7);
        Check.due("size(1)", x.size(1), 4);
        Check.due("size(2)", x.size(2), 2);
        int[] sizes = {7, 6, 6, 5, 6, 5, 5, 4, 6, 5, 5, 4};
        YenKPaths y = Sample.withPaths(31);
        for (int k = 0; k < 12; k++) {
            Check.due("size(" + k + ")", y.size(k), sizes[k]);
        }
    }

    private static void noSuchPath() {
        Check.sentence("NONE if there is no such path");
        for (int number = 0; number <= 31; number++) {
            YenKPaths x = Sample.withPaths(number);
            for (int k = 0; k < 12; k++) {
                Check.due("size(" + k + ") is none of " + number, x.size(k) == YenKPaths.NONE, k >= number);
            }
        }
        YenKPaths x = Sample.with(0, 6, 9);
        Check.due("size(0)", x.size(0), 2);
        Check.due("arc(0, 6, 0)", x.arc(0, 6, 0), true);
        Check.due("size(0) taken away", x.size(0), YenKPaths.NONE);
    }

    private static void numbers() {
        Check.sentence("NONE if k is outside 0..11");
        for (YenKPaths x : Sample.ofFewAndMany()) {
            Check.dueNoneOutside("size", x::size);
        }
        Check.due("size(0), just inside", Sample.complete(1).size(0), 2);
        Check.due("size(11), just inside", Sample.complete(1).size(11), 4);
    }
}
