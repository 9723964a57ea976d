/** The sentences of "Terms" that name a boundary case. */
public final class TermsTest {
    public static void main(String[] args) {
        sevenVertices();
        arcs();
        sourceAndTarget();
        differentVertices();
        fromSourceToTarget();
        arcFromEachToTheNext();
        length();
        orderedByLength();
        sameLength();
        sameLengthAtTheCut();
        numbers();
        Check.end();
    }

    private static void sevenVertices() {
        Check.sentence("There are 7 vertices, 0 to 6");
        for (int v = 0; v < 7; v++) {
            int before = (v + 3) % 7;
            int after = (v + 5) % 7;
            YenKPaths x = Sample.with(before, v, 2, v, after, 3);
            Check.due("ends", x.ends(before, after), true);
            Check.dueOnlyPath(x, 5, before, v, after);
            Check.due("unavoidable()", x.unavoidable(), 1 << before | 1 << v | 1 << after);
            Check.due("passing(before, " + v + ")", x.passing(before, v), 1);
            Check.due("avoiding(before, " + v + ")", x.avoiding(before, v), YenKPaths.NONE);
        }
        YenKPaths x = Sample.complete(1);
        for (int no : new int[] {-1, 7}) {
            Check.due("arc(" + no + ", 3, 1)", x.arc(no, 3, 1), false);
            Check.due("ends(" + no + ", 3)", x.ends(no, 3), false);
            Check.due("weight(" + no + ", 3)", x.weight(no, 3), YenKPaths.BAD);
            Check.due("passing(" + no + ", 3)", x.passing(no, 3), YenKPaths.BAD);
            Check.due("avoiding(" + no + ", 3)", x.avoiding(no, 3), YenKPaths.BAD);
        }
    }

    private static void arcs() {
        Check.sentence("for two different vertices u and v there is an arc from u to v with a weight from 1 to 50, or none");
        for (int u = 0; u < 7; u++) {
            for (int v = 0; v < 7; v++) {
                if (u != v) {
                    dueOnlyArc(u, v, 1);
                    dueOnlyArc(u, v, 50);
                } else {
                    YenKPaths x = new YenKPaths();
                    Check.due("arc(" + u + ", " + v + ", 1)", x.arc(u, v, 1), false);
                    Check.due("weight(" + u + ", " + v + ")", x.weight(u, v), 0);
                }
            }
        }
    }

    private static void dueOnlyArc(int from, int to, int weight) {
        YenKPaths x = Sample.with(from, to, weight);
        for (int u = 0; u < 7; u++) {
            for (int v = 0; v < 7; v++) {
                Check.due("weight(" + u + ", " + v + ") with one arc", x.weight(u, v),
                        u == from && v == to ? weight : 0);
            }
        }
    }

    private static void sourceAndTarget() {
        Check.sentence("There are a SOURCE and a TARGET, two different vertices");
        YenKPaths x = Sample.complete(50);
        for (int v = 0; v < 7; v++) {
            Check.due("ends(" + v + ", " + v + ")", x.ends(v, v), false);
            Check.duePath(x, 0, 50, 0, 6);
        }
        Check.due("ends(6, 0)", x.ends(6, 0), true);
        Check.duePath(x, 0, 50, 6, 0);
        Check.due("ends(0, 0)", x.ends(0, 0), false);
        Check.duePath(x, 0, 50, 6, 0);
    }

    private static void differentVertices() {
        Check.sentence("A PATH is a list of different vertices");
        // Rounds back to the source, between two vertices on the way, and over the target.
        YenKPaths x = Sample.with(0, 1, 1, 1, 0, 1, 1, 2, 1, 2, 1, 1, 2, 0, 1, 1, 6, 9, 6, 1, 1, 6, 0, 1);
        Check.dueOnlyPath(x, 10, 0, 1, 6);
        // With all arcs, each of the 12 shortest lists has different vertices.
        YenKPaths y = Sample.complete(1);
        for (int k = 0; k < 12; k++) {
            int seen = 0;
            for (int i = 0; i < y.size(k); i++) {
                int bit = 1 << y.vertex(k, i);
                Check.due("vertex(" + k + ", " + i + ") seen before", seen & bit, 0);
                seen |= bit;
            }
        }
        // The longest list that can be: all seven vertices.
        Check.dueOnlyPath(Sample.chain(1), 6, 0, 5, 1, 4, 2, 3, 6);
    }

    private static void fromSourceToTarget() {
        Check.sentence("that begins with the source and ends with the target");
        // The shortest list that can be: source and target.
        Check.dueOnlyPath(Sample.with(0, 6, 1), 1, 0, 6);
        // Neither what leads to the source nor what leads on from the target is on a path.
        YenKPaths x = Sample.with(1, 0, 1, 0, 2, 1, 2, 6, 1, 6, 3, 1, 3, 4, 1, 2, 5, 1);
        Check.dueOnlyPath(x, 2, 0, 2, 6);
        Check.due("ends(1, 4)", x.ends(1, 4), true);
        Check.dueOnlyPath(x, 5, 1, 0, 2, 6, 3, 4);
        Check.due("ends(1, 6)", x.ends(1, 6), true);
        Check.dueOnlyPath(x, 3, 1, 0, 2, 6);
        Check.due("ends(5, 6)", x.ends(5, 6), true);
        Check.due("paths() from a dead end", x.paths(), 0);
        Check.due("ends(6, 1)", x.ends(6, 1), true);
        Check.due("paths() to a vertex that no arc leads to", x.paths(), 0);
    }

    private static void arcFromEachToTheNext() {
        Check.sentence("with an arc from each to the next");
        int[] chain = {0, 5, 1, 4, 2, 3, 6};
        for (int i = 1; i < 7; i++) {
            YenKPaths x = Sample.chain(7);
            int from = chain[i - 1];
            int to = chain[i];
            Check.due("arc(" + from + ", " + to + ", 0)", x.arc(from, to, 0), true);
            Check.due("paths() without one arc of the chain", x.paths(), 0);
            Check.due("arc(" + to + ", " + from + ", 7)", x.arc(to, from, 7), true);
            Check.due("paths() with one arc turned round", x.paths(), 0);
            Check.dueNoPath(x, 0);
        }
    }

    private static void length() {
        Check.sentence("Its LENGTH is the sum of the weights of these arcs");
        Check.due("length(0), the least", Sample.with(0, 6, 1).length(0), 1);
        Check.due("length(0), the greatest", Sample.chain(50).length(0), 300);
        YenKPaths x = Sample.with(0, 3, 1, 3, 5, 50, 5, 6, 17, 6, 0, 50, 5, 3, 50);
        Check.due("length(0)", x.length(0), 68);
        Check.due("avoiding(3, 3)", x.avoiding(3, 3), 68);
    }

    private static void orderedByLength() {
        Check.sentence("Paths are ordered by length");
        // One less is shorter, though the vertices are larger and more.
        YenKPaths x = Sample.with(0, 1, 1, 1, 6, 49, 0, 5, 16, 5, 4, 16, 4, 6, 17);
        Check.duePath(x, 0, 49, 0, 5, 4, 6);
        Check.duePath(x, 1, 50, 0, 1, 6);
        Check.due("arc(4, 6, 19)", x.arc(4, 6, 19), true);
        Check.duePath(x, 0, 50, 0, 1, 6);
        Check.duePath(x, 1, 51, 0, 5, 4, 6);
        // From the least length to the greatest.
        YenKPaths y = Sample.chain(50);
        Check.due("arc(0, 6, 1)", y.arc(0, 6, 1), true);
        Check.duePath(y, 0, 1, 0, 6);
        Check.duePath(y, 1, 300, 0, 5, 1, 4, 2, 3, 6);
    }

    private static void sameLength() {
        Check.sentence("of two with the same length the one with the smaller vertex at the first place where they differ comes first");
        // At the first place, though the later vertices are larger.
        YenKPaths x = Sample.with(0, 2, 1, 2, 1, 1, 1, 6, 1, 0, 1, 1, 1, 5, 1, 5, 6, 1);
        Check.duePath(x, 0, 2, 0, 1, 6);
        Check.duePath(x, 1, 3, 0, 1, 5, 6);
        Check.duePath(x, 2, 3, 0, 2, 1, 6);
        // At the last place where two paths can differ.
        YenKPaths y = Sample.with(0, 1, 1, 1, 2, 1, 2, 3, 1, 3, 5, 1, 5, 4, 1, 4, 6, 1, 3, 4, 1, 4, 5, 1, 5, 6, 1);
        Check.duePath(y, 2, 6, 0, 1, 2, 3, 4, 5, 6);
        Check.duePath(y, 3, 6, 0, 1, 2, 3, 5, 4, 6);
        // Where the target stands against a vertex further on the way, it counts like any other.
        YenKPaths largeTarget = Sample.with(0, 1, 1, 1, 6, 2, 1, 5, 1, 5, 6, 1);
        Check.duePath(largeTarget, 0, 3, 0, 1, 5, 6);
        Check.duePath(largeTarget, 1, 3, 0, 1, 6);
        YenKPaths smallTarget = Sample.with(6, 1, 1, 1, 0, 2, 1, 5, 1, 5, 0, 1);
        Check.due("ends(6, 0)", smallTarget.ends(6, 0), true);
        Check.duePath(smallTarget, 0, 3, 6, 1, 0);
        Check.duePath(smallTarget, 1, 3, 6, 1, 5, 0);
        // Five of length 6, of sizes 2 to 4.
        YenKPaths z = Sample.with(5, 2, 6, 5, 1, 2, 1, 2, 4, 5, 6, 2, 6, 2, 4, 1, 4, 2, 4, 2, 2, 1, 0, 2, 0, 2, 2);
        Check.due("ends(5, 2)", z.ends(5, 2), true);
        Check.duePath(z, 0, 6, 5, 1, 0, 2);
        Check.duePath(z, 1, 6, 5, 1, 2);
        Check.duePath(z, 2, 6, 5, 1, 4, 2);
        Check.duePath(z, 3, 6, 5, 2);
        Check.duePath(z, 4, 6, 5, 6, 2);
        Check.dueNoPath(z, 5);
    }

    private static void sameLengthAtTheCut() {
        Check.sentence("of two with the same length ... comes first: number 11 and the one behind it");
        YenKPaths x = Sample.withPaths(31);
        Check.duePath(x, 0, 6, 0, 1, 2, 3, 4, 5, 6);
        Check.duePath(x, 1, 6, 0, 1, 2, 3, 4, 6);
        Check.duePath(x, 2, 6, 0, 1, 2, 3, 5, 6);
        Check.duePath(x, 3, 6, 0, 1, 2, 3, 6);
        Check.duePath(x, 4, 6, 0, 1, 2, 4, 5, 6);
        Check.duePath(x, 5, 6, 0, 1, 2, 4, 6);
        Check.duePath(x, 6, 6, 0, 1, 2, 5, 6);
        Check.duePath(x, 7, 6, 0, 1, 2, 6);
        Check.duePath(x, 8, 6, 0, 1, 3, 4, 5, 6);
        Check.duePath(x, 9, 6, 0, 1, 3, 4, 6);
        Check.duePath(x, 10, 6, 0, 1, 3, 5, 6);
        Check.duePath(x, 11, 6, 0, 1, 3, 6);
        // The last path of all in the order of vertices, one shorter, pushes number 11 out.
        Check.due("arc(0, 6, 5)", x.arc(0, 6, 5), true);
        Check.duePath(x, 0, 5, 0, 6);
        Check.duePath(x, 11, 6, 0, 1, 3, 5, 6);
        // With the same length it comes behind all others, and one longer too.
        Check.due("arc(0, 6, 6)", x.arc(0, 6, 6), true);
        Check.duePath(x, 11, 6, 0, 1, 3, 6);
        Check.due("arc(0, 6, 7)", x.arc(0, 6, 7), true);
        Check.duePath(x, 11, 6, 0, 1, 3, 6);
    }

    private static void numbers() {
        Check.sentence("Path number k is the k-th one in this order, from 0 on; only numbers up to 11 are asked for");
        // One arc, then five paths over one vertex, then the first six of those over two.
        YenKPaths x = Sample.complete(3);
        Check.dueNoPath(x, -1);
        Check.duePath(x, 0, 3, 0, 6);
        for (int v = 1; v <= 5; v++) {
            Check.duePath(x, v, 6, 0, v, 6);
        }
        for (int v = 2; v <= 5; v++) {
            Check.duePath(x, 4 + v, 9, 0, 1, v, 6);
        }
        Check.duePath(x, 10, 9, 0, 2, 1, 6);
        Check.duePath(x, 11, 9, 0, 2, 3, 6);
        Check.dueNoPath(x, 12);
        Check.dueNoPath(x, 13);
    }
}
