/** Promise 5: paths. */
public final class Promise05PathsTest {
    public static void main(String[] args) {
        number();
        moreThanTwelve();
        Check.end();
    }

    private static void number() {
        Check.sentence("The number of paths");
        Check.due("paths() without arcs", new YenKPaths().paths(), 0);
        Check.due("paths() with no arc to the target", Sample.withoutAWayIn().paths(), 0);
        Check.due("paths() with arcs both ways", Sample.sparse().paths(), 5);
        Check.due("paths() without a path", Sample.with(0, 1, 1, 1, 0, 1, 5, 6, 1, 6, 5, 1).paths(), 0);
        Check.due("paths() with one arc", Sample.with(0, 6, 50).paths(), 1);
        Check.due("paths() over all vertices", Sample.chain(50).paths(), 1);
        for (int number = 0; number <= 12; number++) {
            Check.due("paths() of " + number, Sample.withPaths(number).paths(), number);
        }
        YenKPaths x = Sample.with(0, 1, 1, 2, 6, 1, 6, 5, 1, 6, 0, 1);
        Check.due("paths() with a gap", x.paths(), 0);
        Check.due("arc(1, 2, 1)", x.arc(1, 2, 1), true);
        Check.due("paths() without it", x.paths(), 1);
        Check.due("ends(6, 0)", x.ends(6, 0), true);
        Check.due("paths() backwards", x.paths(), 1);
        Check.due("ends(5, 0)", x.ends(5, 0), true);
        Check.due("paths() from a dead end", x.paths(), 0);
    }

    private static void moreThanTwelve() {
        Check.sentence("but 12 if there are more than 12");
        for (int number = 13; number <= 31; number++) {
            Check.due("paths() of " + number, Sample.withPaths(number).paths(), 12);
        }
        Check.due("paths() of 326", Sample.complete(50).paths(), 12);
        // Over 12 and back again, one arc at a time.
        YenKPaths x = Sample.withPaths(11);
        Check.due("paths() of 11", x.paths(), 11);
        Check.due("arc(0, 6, 50)", x.arc(0, 6, 50), true);
        Check.due("paths() of 12", x.paths(), 12);
        Check.due("arc(3, 6, 50)", x.arc(3, 6, 50), true);
        Check.due("paths() of 16", x.paths(), 12);
        Check.due("arc(3, 6, 0)", x.arc(3, 6, 0), true);
        Check.due("paths() of 12", x.paths(), 12);
        Check.due("arc(1, 6, 0)", x.arc(1, 6, 0), true);
        Check.due("paths() of 11", x.paths(), 11);
    }
}
