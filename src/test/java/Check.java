import java.util.LinkedHashMap;
import java.util.Map;
import java.util.function.IntBinaryOperator;
import java.util.function.IntUnaryOperator;

/**
 * Counts the answers that are not the ones due, for each sentence of the document by itself, prints
 * the first of them, and ends a test with exit code 1 if there was one or if a sentence was never
 * tested.
 */
final class Check {
    private static final int ASKED = 0;
    private static final int WRONG = 1;
    // A class that is quite broken would else fill the log with the same fault.
    private static final int MOST_PRINTED = 20;
    private static final Map<String, int[]> COUNTS = new LinkedHashMap<>();
    private static int[] here = null;

    private Check() {
    }

    /** What is asked from here on tests this sentence of the document; a test may come back to it. */
    static void sentence(String words) {
        here = COUNTS.computeIfAbsent(words, unused -> new int[2]);
    }

    static void due(String call, int got, int want) {
        here[ASKED]++;
        if (got != want) {
            here[WRONG]++;
            if (here[WRONG] <= MOST_PRINTED) {
                System.out.println(call + " answered " + got + ", due is " + want);
            }
        }
    }

    static void due(String call, boolean got, boolean want) {
        due(call, got ? 1 : 0, want ? 1 : 0);
    }

    /** Asks for each vertex of path number k, its size, and the places just outside it. */
    static void duePath(YenKPaths x, int k, int length, int... vertices) {
        due("length(" + k + ")", x.length(k), length);
        due("size(" + k + ")", x.size(k), vertices.length);
        due("vertex(" + k + ", -1)", x.vertex(k, -1), YenKPaths.NONE);
        for (int i = 0; i < vertices.length; i++) {
            due("vertex(" + k + ", " + i + ")", x.vertex(k, i), vertices[i]);
        }
        due("vertex(" + k + ", " + vertices.length + ")", x.vertex(k, vertices.length), YenKPaths.NONE);
    }

    static void dueNoPath(YenKPaths x, int k) {
        due("length(" + k + ")", x.length(k), YenKPaths.NONE);
        due("size(" + k + ")", x.size(k), YenKPaths.NONE);
        for (int i = -1; i <= 7; i++) {
            due("vertex(" + k + ", " + i + ")", x.vertex(k, i), YenKPaths.NONE);
        }
    }

    /** Just this one path: its questions, and none behind it. */
    static void dueOnlyPath(YenKPaths x, int length, int... vertices) {
        due("paths()", x.paths(), 1);
        duePath(x, 0, length, vertices);
        dueNoPath(x, 1);
    }

    /** BAD for every pair of which one or both are no vertex; 320 calls. */
    static void dueBad(String name, IntBinaryOperator question) {
        for (int no : Sample.NO_VERTICES) {
            for (int v = 0; v < 7; v++) {
                due(name + "(" + no + ", " + v + ")", question.applyAsInt(no, v), YenKPaths.BAD);
                due(name + "(" + v + ", " + no + ")", question.applyAsInt(v, no), YenKPaths.BAD);
            }
            due(name + "(" + no + ", " + no + ")", question.applyAsInt(no, no), YenKPaths.BAD);
            due(name + "(" + no + ", 8)", question.applyAsInt(no, 8), YenKPaths.BAD);
        }
    }

    static void dueNoneOutside(String name, IntUnaryOperator question) {
        for (int k : Sample.NO_NUMBERS) {
            due(name + "(" + k + ")", question.applyAsInt(k), YenKPaths.NONE);
        }
    }

    /** Every question answers the same for both; 257 calls of each object's 512. */
    static void dueSame(String after, YenKPaths x, YenKPaths twin) {
        due("paths() " + after, x.paths(), twin.paths());
        due("unavoidable() " + after, x.unavoidable(), twin.unavoidable());
        for (int u = 0; u < 7; u++) {
            for (int v = 0; v < 7; v++) {
                String arc = "(" + u + ", " + v + ") " + after;
                due("weight" + arc, x.weight(u, v), twin.weight(u, v));
                due("passing" + arc, x.passing(u, v), twin.passing(u, v));
                due("avoiding" + arc, x.avoiding(u, v), twin.avoiding(u, v));
            }
        }
        for (int k = 0; k < 12; k++) {
            due("length(" + k + ") " + after, x.length(k), twin.length(k));
            due("size(" + k + ") " + after, x.size(k), twin.size(k));
            for (int i = 0; i < 7; i++) {
                due("vertex(" + k + ", " + i + ") " + after, x.vertex(k, i), twin.vertex(k, i));
            }
        }
    }

    static void end() {
        boolean failed = COUNTS.isEmpty();
        for (Map.Entry<String, int[]> entry : COUNTS.entrySet()) {
            int asked = entry.getValue()[ASKED];
            int wrong = entry.getValue()[WRONG];
            boolean holds = asked > 0 && wrong == 0;
            failed |= !holds;
            System.out.println((holds ? "  holds: " : "  BROKEN: ") + entry.getKey()
                    + " [" + asked + " answers, " + wrong + " not as due]");
        }
        if (failed) {
            System.exit(1);
        }
    }
}
