/** Promise 2: arc. */
public final class Promise02ArcTest {
    public static void main(String[] args) {
        sets();
        takesAway();
        vertices();
        loops();
        weights();
        refusedLeavesTheState();
        elseTrue();
        Check.end();
    }

    private static void sets() {
        Check.sentence("Sets the weight of the arc from u to v");
        YenKPaths x = Sample.varied();
        for (int u = 0; u < 7; u++) {
            for (int v = 0; v < 7; v++) {
                Check.due("weight(" + u + ", " + v + ")", x.weight(u, v), Sample.variedWeight(u, v));
            }
        }
        YenKPaths y = new YenKPaths();
        for (int weight : new int[] {1, 50, 2, 49, 50, 1}) {
            Check.due("arc(0, 6, " + weight + ")", y.arc(0, 6, weight), true);
            Check.due("weight(0, 6)", y.weight(0, 6), weight);
            Check.dueOnlyPath(y, weight, 0, 6);
        }
        Check.due("weight(6, 0), the other way", y.weight(6, 0), 0);
    }

    private static void takesAway() {
        Check.sentence("weight 0 takes the arc away");
        YenKPaths x = Sample.with(0, 6, 5, 6, 0, 3, 0, 1, 2, 1, 6, 2);
        Check.due("arc(0, 6, 0)", x.arc(0, 6, 0), true);
        Check.due("weight(0, 6)", x.weight(0, 6), 0);
        Check.due("weight(6, 0)", x.weight(6, 0), 3);
        Check.due("weight(0, 1)", x.weight(0, 1), 2);
        Check.dueOnlyPath(x, 4, 0, 1, 6);
        Check.due("arc(0, 6, 0) again", x.arc(0, 6, 0), true);
        Check.due("arc(3, 4, 0), never set", x.arc(3, 4, 0), true);
        Check.due("weight(3, 4)", x.weight(3, 4), 0);
        Check.due("arc(1, 6, 0)", x.arc(1, 6, 0), true);
        Check.due("paths()", x.paths(), 0);
        Check.due("arc(0, 6, 1)", x.arc(0, 6, 1), true);
        Check.dueOnlyPath(x, 1, 0, 6);
        takesAllAway();
    }

    private static void takesAllAway() {
        YenKPaths x = Sample.complete(50);
        for (int u = 0; u < 7; u++) {
            for (int v = 0; v < 7; v++) {
                if (u != v) {
                    Check.due("arc(" + u + ", " + v + ", 0)", x.arc(u, v, 0), true);
                }
            }
        }
        Check.dueSame("after all arcs were taken away", x, new YenKPaths());
    }

    private static void vertices() {
        Check.sentence("u or v outside 0..6: refused, answers false");
        for (int no : Sample.NO_VERTICES) {
            YenKPaths x = Sample.varied();
            for (int v = 0; v < 7; v++) {
                for (int weight : new int[] {0, 1, 50}) {
                    Check.due("arc(" + no + ", " + v + ", " + weight + ")", x.arc(no, v, weight), false);
                    Check.due("arc(" + v + ", " + no + ", " + weight + ")", x.arc(v, no, weight), false);
                }
            }
            Check.due("arc(" + no + ", " + no + ", 1)", x.arc(no, no, 1), false);
            Check.due("arc(" + no + ", 8, 1)", x.arc(no, 8, 1), false);
            Check.dueSame("after arcs of " + no, x, Sample.varied());
        }
    }

    private static void loops() {
        Check.sentence("u = v: refused, answers false");
        for (int u = 0; u < 7; u++) {
            YenKPaths x = Sample.varied();
            for (int weight : new int[] {0, 1, 50}) {
                Check.due("arc(" + u + ", " + u + ", " + weight + ")", x.arc(u, u, weight), false);
            }
            Check.dueSame("after loops at " + u, x, Sample.varied());
        }
    }

    private static void weights() {
        Check.sentence("weight outside 0..50: refused, answers false");
        for (int weight : Sample.NO_WEIGHTS) {
            YenKPaths x = Sample.varied();
            for (int u = 0; u < 7; u++) {
                for (int v = 0; v < 7; v++) {
                    Check.due("arc(" + u + ", " + v + ", " + weight + ")", x.arc(u, v, weight), false);
                }
            }
            Check.dueSame("after the weight " + weight, x, Sample.varied());
        }
    }

    private static void refusedLeavesTheState() {
        Check.sentence("refused: no arc comes, goes or changes, with no arcs and with few");
        YenKPaths none = new YenKPaths();
        refusedCalls(none);
        Check.dueSame("after refused calls without arcs", none, new YenKPaths());
        YenKPaths few = Sample.sparse();
        refusedCalls(few);
        Check.dueSame("after refused calls with few arcs", few, Sample.sparse());
        YenKPaths twelve = Sample.withPaths(12);
        refusedCalls(twelve);
        Check.dueSame("after refused calls with 12 paths", twelve, Sample.withPaths(12));
    }

    private static void refusedCalls(YenKPaths x) {
        for (int no : Sample.NO_VERTICES) {
            Check.due("arc(" + no + ", 6, 1)", x.arc(no, 6, 1), false);
            Check.due("arc(0, " + no + ", 1)", x.arc(0, no, 1), false);
            Check.due("arc(" + no + ", " + no + ", 0)", x.arc(no, no, 0), false);
        }
        for (int v = 0; v < 7; v++) {
            Check.due("arc(" + v + ", " + v + ", 1)", x.arc(v, v, 1), false);
        }
        for (int weight : Sample.NO_WEIGHTS) {
            Check.due("arc(0, 6, " + weight + ")", x.arc(0, 6, weight), false);
            Check.due("arc(2, 4, " + weight + ")", x.arc(2, 4, weight), false);
        }
    }

    private static void elseTrue() {
        Check.sentence("Else true");
        for (int weight : new int[] {0, 1, 2, 49, 50}) {
            YenKPaths x = new YenKPaths();
            for (int u = 0; u < 7; u++) {
                for (int v = 0; v < 7; v++) {
                    if (u != v) {
                        Check.due("arc(" + u + ", " + v + ", " + weight + ")", x.arc(u, v, weight), true);
                        Check.due("the same again", x.arc(u, v, weight), true);
                    }
                }
            }
        }
    }
}
