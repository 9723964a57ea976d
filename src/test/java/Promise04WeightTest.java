/** Promise 4: weight. */
public final class Promise04WeightTest {
    public static void main(String[] args) {
        weight();
        none();
        bad();
        Check.end();
    }

    private static void weight() {
        Check.sentence("The weight of the arc from u to v");
        YenKPaths x = Sample.with(0, 6, 50, 6, 5, 1, 3, 2, 17);
        Check.due("weight(0, 6)", x.weight(0, 6), 50);
        Check.due("weight(6, 5)", x.weight(6, 5), 1);
        Check.due("weight(3, 2)", x.weight(3, 2), 17);
        Check.due("arc(3, 2, 18)", x.arc(3, 2, 18), true);
        Check.due("weight(3, 2) set anew", x.weight(3, 2), 18);
        YenKPaths all = Sample.varied();
        for (int u = 0; u < 7; u++) {
            for (int v = 0; v < 7; v++) {
                Check.due("weight(" + u + ", " + v + ")", all.weight(u, v), Sample.variedWeight(u, v));
            }
        }
    }

    private static void none() {
        Check.sentence("0 if there is none");
        YenKPaths x = Sample.with(3, 2, 17, 0, 6, 50);
        Check.due("weight(2, 3)", x.weight(2, 3), 0);
        Check.due("weight(6, 0)", x.weight(6, 0), 0);
        Check.due("arc(3, 2, 0)", x.arc(3, 2, 0), true);
        Check.due("weight(3, 2) taken away", x.weight(3, 2), 0);
        YenKPaths all = Sample.complete(50);
        for (int v = 0; v < 7; v++) {
            Check.due("weight(" + v + ", " + v + ")", all.weight(v, v), 0);
        }
    }

    private static void bad() {
        Check.sentence("BAD if u or v is outside 0..6");
        for (YenKPaths x : new YenKPaths[] {new YenKPaths(), Sample.complete(50)}) {
            Check.dueBad("weight", x::weight);
        }
    }
}
