/** Promise 3: ends. */
public final class Promise03EndsTest {
    public static void main(String[] args) {
        sets();
        vertices();
        sameVertex();
        refusedLeavesTheState();
        elseTrue();
        Check.end();
    }

    private static void sets() {
        Check.sentence("Sets source and target");
        YenKPaths x = Sample.complete(2);
        for (int s = 0; s < 7; s++) {
            for (int t = 0; t < 7; t++) {
                if (s != t) {
                    Check.due("ends(" + s + ", " + t + ")", x.ends(s, t), true);
                    Check.duePath(x, 0, 2, s, t);
                    Check.due("unavoidable()", x.unavoidable(), 1 << s | 1 << t);
                }
            }
        }
        YenKPaths y = Sample.varied();
        Check.due("ends(6, 0)", y.ends(6, 0), true);
        for (int u = 0; u < 7; u++) {
            for (int v = 0; v < 7; v++) {
                Check.due("weight(" + u + ", " + v + ")", y.weight(u, v), Sample.variedWeight(u, v));
            }
        }
    }

    private static void vertices() {
        Check.sentence("s or t outside 0..6: refused, answers false");
        for (int no : Sample.NO_VERTICES) {
            YenKPaths x = Sample.varied();
            for (int v = 0; v < 7; v++) {
                Check.due("ends(" + no + ", " + v + ")", x.ends(no, v), false);
                Check.due("ends(" + v + ", " + no + ")", x.ends(v, no), false);
            }
            Check.due("ends(" + no + ", " + no + ")", x.ends(no, no), false);
            Check.due("ends(" + no + ", 8)", x.ends(no, 8), false);
            Check.dueSame("after ends of " + no, x, Sample.varied());
        }
    }

    private static void sameVertex() {
        Check.sentence("s = t: refused, answers false");
        for (int v = 0; v < 7; v++) {
            YenKPaths x = Sample.varied();
            Check.due("ends(" + v + ", " + v + ")", x.ends(v, v), false);
            Check.dueSame("after ends(" + v + ", " + v + ")", x, Sample.varied());
        }
    }

    private static void refusedLeavesTheState() {
        Check.sentence("refused: source and target stay, in a new object and with few arcs");
        YenKPaths fresh = new YenKPaths();
        refusedCalls(fresh);
        Check.due("arc(0, 6, 4)", fresh.arc(0, 6, 4), true);
        Check.dueSame("after refused calls", fresh, Sample.with(0, 6, 4));
        YenKPaths few = Sample.sparse();
        refusedCalls(few);
        Check.dueSame("after refused calls", few, Sample.sparse());
    }

    private static void refusedCalls(YenKPaths x) {
        for (int no : Sample.NO_VERTICES) {
            Check.due("ends(" + no + ", 3)", x.ends(no, 3), false);
            Check.due("ends(3, " + no + ")", x.ends(3, no), false);
            Check.due("ends(" + no + ", " + no + ")", x.ends(no, no), false);
        }
        for (int v = 0; v < 7; v++) {
            Check.due("ends(" + v + ", " + v + ")", x.ends(v, v), false);
        }
    }

    private static void elseTrue() {
        Check.sentence("Else true");
        YenKPaths x = new YenKPaths();
        Check.due("ends(0, 6), as it was", x.ends(0, 6), true);
        for (int s = 0; s < 7; s++) {
            for (int t = 0; t < 7; t++) {
                if (s != t) {
                    Check.due("ends(" + s + ", " + t + ") without arcs", x.ends(s, t), true);
                    Check.due("the same again", x.ends(s, t), true);
                    Check.due("turned round", x.ends(t, s), true);
                }
            }
        }
    }
}
