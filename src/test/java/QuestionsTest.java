/** The sentences outside the promises that bound what a call may do. */
public final class QuestionsTest {
    public static void main(String[] args) {
        questionsChangeNothing();
        fiveHundredAndTwelveCalls();
        Check.end();
    }

    private static void questionsChangeNothing() {
        Check.sentence("Nothing beyond the answers and state changes described: a question leaves the state as it was");
        YenKPaths[] asked = {new YenKPaths(), Sample.sparse(), Sample.withPaths(12), Sample.varied()};
        YenKPaths[] twins = {new YenKPaths(), Sample.sparse(), Sample.withPaths(12), Sample.varied()};
        for (int n = 0; n < asked.length; n++) {
            for (int no : new int[] {-1, 7, Integer.MIN_VALUE, Integer.MAX_VALUE}) {
                Check.due("weight", asked[n].weight(no, 3), YenKPaths.BAD);
                Check.due("passing", asked[n].passing(3, no), YenKPaths.BAD);
                Check.due("avoiding", asked[n].avoiding(no, no), YenKPaths.BAD);
                Check.due("vertex", asked[n].vertex(0, no), YenKPaths.NONE);
            }
            for (int no : new int[] {-1, 12, Integer.MIN_VALUE, Integer.MAX_VALUE}) {
                Check.due("length", asked[n].length(no), YenKPaths.NONE);
                Check.due("size", asked[n].size(no), YenKPaths.NONE);
                Check.due("vertex", asked[n].vertex(no, 0), YenKPaths.NONE);
            }
            for (int v = 0; v < 7; v++) {
                for (int u = 0; u < 7; u++) {
                    asked[n].avoiding(u, v);
                }
            }
            Check.dueSame("after questions", asked[n], twins[n]);
        }
    }

    private static void fiveHundredAndTwelveCalls() {
        Check.sentence("An object is used for at most 512 calls: the last of them is answered like the first");
        YenKPaths x = Sample.complete(1);
        for (int call = 43; call <= 508; call++) {
            Check.due("length(11) in call " + call, x.length(11), 3);
        }
        Check.due("arc(0, 6, 50) in call 509", x.arc(0, 6, 50), true);
        Check.due("avoiding(0, 1) in call 510", x.avoiding(0, 1), 2);
        Check.due("unavoidable() in call 511", x.unavoidable(), 65);
        Check.due("vertex(11, 2) in call 512", x.vertex(11, 2), 4);
    }
}
