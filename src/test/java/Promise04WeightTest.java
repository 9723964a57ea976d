/** Promise 4: the weight of an arc, 0 if there is none, BAD outside 0..6. */
public final class Promise04WeightTest {
    public static void main(String[] args) {
        YenKPaths x = Check.with(0, 6, 50, 6, 5, 1, 3, 2, 17);
        Check.due("weight(0, 6)", x.weight(0, 6), 50);
        Check.due("weight(6, 5)", x.weight(6, 5), 1);
        Check.due("weight(3, 2)", x.weight(3, 2), 17);
        Check.due("weight(2, 3)", x.weight(2, 3), 0);
        Check.due("weight(6, 0)", x.weight(6, 0), 0);
        Check.due("arc(3, 2, 18)", x.arc(3, 2, 18), true);
        Check.due("weight(3, 2) set anew", x.weight(3, 2), 18);
        for (int u = 0; u < 7; u++) {
            Check.due("weight(" + u + ", " + u + ")", x.weight(u, u), 0);
        }
        for (int wrong : Check.OUTSIDE) {
            for (int right = 0; right < 7; right++) {
                Check.due("weight(" + wrong + ", " + right + ")", x.weight(wrong, right), YenKPaths.BAD);
                Check.due("weight(" + right + ", " + wrong + ")", x.weight(right, wrong), YenKPaths.BAD);
            }
            Check.due("weight(" + wrong + ", " + wrong + ")", x.weight(wrong, wrong), YenKPaths.BAD);
        }
        Check.end();
    }
}
