/** Promise 10: avoiding. */
public final class Promise10AvoidingTest {
    public static void main(String[] args) {
        leastLength();
        everyPathCounts();
        noSuchArc();
        none();
        bad();
        leavesTheObjectAsItWas();
        Check.end();
    }

    private static void leastLength() {
        Check.sentence("The least length of a path that does not pass the arc from u to v");
        YenKPaths x = Sample.with(0, 1, 1, 1, 6, 1, 0, 2, 2, 2, 6, 2, 2, 1, 9);
        Check.due("avoiding(0, 1)", x.avoiding(0, 1), 4);
        Check.due("avoiding(1, 6)", x.avoiding(1, 6), 4);
        Check.due("avoiding(2, 6)", x.avoiding(2, 6), 2);
        Check.due("avoiding(2, 1)", x.avoiding(2, 1), 2);
        Check.due("arc(0, 1, 0)", x.arc(0, 1, 0), true);
        Check.due("avoiding(2, 6), over 1", x.avoiding(2, 6), 12);
        // From the least length that can be to the greatest.
        YenKPaths y = Sample.chain(50);
        Check.due("arc(0, 6, 1)", y.arc(0, 6, 1), true);
        Check.due("avoiding(0, 5)", y.avoiding(0, 5), 1);
        Check.due("avoiding(0, 6)", y.avoiding(0, 6), 300);
        // Both of the same length.
        YenKPaths z = Sample.with(0, 1, 1, 1, 6, 1, 0, 2, 1, 2, 6, 1);
        Check.due("avoiding(0, 1)", z.avoiding(0, 1), 2);
        Check.due("avoiding(2, 6)", z.avoiding(2, 6), 2);
        // All arcs: only the arc from the source to the target makes a difference.
        YenKPaths all = Sample.complete(50);
        for (int u = 0; u < 7; u++) {
            for (int v = 0; v < 7; v++) {
                Check.due("avoiding(" + u + ", " + v + ")", all.avoiding(u, v), u == 0 && v == 6 ? 100 : 50);
            }
        }
    }

    private static void everyPathCounts() {
        Check.sentence("of a path: also of one behind number 11");
        for (int number = 0; number <= 15; number++) {
            YenKPaths x = Sample.withOneAside(number);
            Check.due("avoiding(0, 1) behind " + number, x.avoiding(0, 1), 50);
            Check.due("avoiding(0, 6) beside " + number, x.avoiding(0, 6), number == 0 ? YenKPaths.NONE : 6);
            Check.due("arc(0, 6, 0)", x.arc(0, 6, 0), true);
            Check.due("avoiding(0, 1)", x.avoiding(0, 1), YenKPaths.NONE);
        }
    }

    private static void noSuchArc() {
        Check.sentence("(whether there is such an arc or not)");
        YenKPaths x = Sample.with(0, 1, 1, 1, 6, 1, 0, 2, 2, 2, 6, 2, 3, 4, 1);
        Check.due("avoiding(1, 0), no arc", x.avoiding(1, 0), 2);
        Check.due("avoiding(0, 6), no arc", x.avoiding(0, 6), 2);
        Check.due("avoiding(6, 1), no arc", x.avoiding(6, 1), 2);
        Check.due("avoiding(3, 4), an arc on no path", x.avoiding(3, 4), 2);
        for (int v = 0; v < 7; v++) {
            Check.due("avoiding(" + v + ", " + v + ")", x.avoiding(v, v), 2);
        }
        Check.due("avoiding(0, 1), an arc", x.avoiding(0, 1), 4);
        Check.due("arc(0, 1, 0)", x.arc(0, 1, 0), true);
        Check.due("avoiding(0, 1), taken away", x.avoiding(0, 1), 4);
    }

    private static void none() {
        Check.sentence("NONE if there is no such path");
        YenKPaths none = new YenKPaths();
        YenKPaths gap = Sample.withoutAWayIn();
        for (int u = 0; u < 7; u++) {
            for (int v = 0; v < 7; v++) {
                Check.due("avoiding(" + u + ", " + v + ") without arcs", none.avoiding(u, v), YenKPaths.NONE);
                Check.due("avoiding(" + u + ", " + v + ") without a path", gap.avoiding(u, v), YenKPaths.NONE);
            }
        }
        // The only path passes each of its arcs, the first and the last among them.
        YenKPaths chain = Sample.chain(50);
        int[] vertices = {0, 5, 1, 4, 2, 3, 6};
        for (int i = 1; i < 7; i++) {
            Check.due("avoiding an arc of the only path",
                    chain.avoiding(vertices[i - 1], vertices[i]), YenKPaths.NONE);
        }
        Check.due("avoiding(6, 0)", chain.avoiding(6, 0), 300);
        // All 65 paths of this one pass the arc from 0 to 1.
        YenKPaths bridge = Sample.complete(1);
        for (int v = 2; v <= 6; v++) {
            Check.due("arc(0, " + v + ", 0)", bridge.arc(0, v, 0), true);
        }
        Check.due("avoiding(0, 1)", bridge.avoiding(0, 1), YenKPaths.NONE);
        Check.due("avoiding(1, 6)", bridge.avoiding(1, 6), 3);
    }

    private static void bad() {
        Check.sentence("BAD if u or v is outside 0..6");
        for (YenKPaths x : new YenKPaths[] {Sample.with(0, 6, 1), Sample.complete(1)}) {
            Check.dueBad("avoiding", x::avoiding);
        }
    }

    private static void leavesTheObjectAsItWas() {
        Check.sentence("The least length ...: the arc itself stays, and so do all paths");
        YenKPaths x = Sample.with(0, 1, 1, 1, 6, 1, 0, 6, 9);
        Check.due("avoiding(0, 1)", x.avoiding(0, 1), 9);
        Check.due("weight(0, 1)", x.weight(0, 1), 1);
        Check.due("avoiding(0, 1)", x.avoiding(0, 1), 9);
        Check.due("paths()", x.paths(), 2);
        Check.due("avoiding(0, 1)", x.avoiding(0, 1), 9);
        Check.due("unavoidable()", x.unavoidable(), 65);
        Check.due("avoiding(0, 1)", x.avoiding(0, 1), 9);
        Check.due("passing(0, 1)", x.passing(0, 1), 1);
        Check.due("avoiding(0, 1)", x.avoiding(0, 1), 9);
        Check.duePath(x, 0, 2, 0, 1, 6);
        Check.due("avoiding(0, 6)", x.avoiding(0, 6), 2);
        Check.duePath(x, 1, 9, 0, 6);
    }
}
