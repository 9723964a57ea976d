/** Promise 6: length. */
public final class Promise06LengthTest {
    public static void main(String[] args) {
        length();
        noSuchPath();
        numbers();
        Check.end();
    }

    private static void length() {
        Check.sentence("The length of path number k");
        YenKPaths x = Sample.with(0, 6, 9, 0, 1, 2, 1, 6, 3, 1, 2, 4, 2, 6, 3);
        Check.due("length(0)", x.length(0), 5);
        Check.due("length(1)", x.length(1), 9);
        Check.due("length(2)", x.length(2), 9);
        Check.due("length(0), the least", Sample.with(0, 6, 1).length(0), 1);
        Check.due("length(0), the greatest", Sample.chain(50).length(0), 300);
        YenKPaths all = Sample.complete(50);
        for (int k = 0; k < 12; k++) {
            Check.due("length(" + k + ") with all arcs", all.length(k), k == 0 ? 50 : k <= 5 ? 100 : 150);
        }
    }

    private static void noSuchPath() {
        Check.sentence("NONE if there is no such path");
        for (int number = 0; number <= 31; number++) {
            YenKPaths x = Sample.withPaths(number);
            for (int k = 0; k < 12; k++) {
                Check.due("length(" + k + ") of " + number, x.length(k), k < number ? 6 : YenKPaths.NONE);
            }
        }
        YenKPaths x = Sample.with(0, 6, 9);
        Check.due("length(0)", x.length(0), 9);
        Check.due("arc(0, 6, 0)", x.arc(0, 6, 0), true);
        Check.due("length(0) taken away", x.length(0), YenKPaths.NONE);
    }

    private static void numbers() {
        Check.sentence("NONE if k is outside 0..11");
        for (YenKPaths x : Sample.ofFewAndMany()) {
            Check.dueNoneOutside("length", x::length);
        }
        Check.due("length(0), just inside", Sample.withPaths(12).length(0), 6);
        Check.due("length(11), just inside", Sample.withPaths(12).length(11), 6);
    }
}
