/** Promise 3: ends sets source and target, and refuses wrong inputs without a change. */
public final class Promise03EndsTest {
    public static void main(String[] args) {
        everyPair();
        refuses();
        Check.end();
    }

    private static void everyPair() {
        YenKPaths x = Check.complete(2);
        for (int s = 0; s < 7; s++) {
            for (int t = 0; t < 7; t++) {
                if (s != t) {
                    Check.due("ends(" + s + ", " + t + ")", x.ends(s, t), true);
                    Check.duePath(x, 0, 2, s, t);
                }
            }
        }
        Check.due("weight(3, 4)", x.weight(3, 4), 2);
    }

    private static void refuses() {
        YenKPaths x = Check.with(2, 4, 7);
        Check.due("ends(2, 4)", x.ends(2, 4), true);
        for (int wrong : Check.OUTSIDE) {
            for (int right = 0; right < 7; right++) {
                Check.due("ends(" + wrong + ", " + right + ")", x.ends(wrong, right), false);
                Check.due("ends(" + right + ", " + wrong + ")", x.ends(right, wrong), false);
            }
            Check.due("ends(" + wrong + ", " + wrong + ")", x.ends(wrong, wrong), false);
            Check.duePath(x, 0, 7, 2, 4);
        }
        for (int same = 0; same < 7; same++) {
            Check.due("ends(" + same + ", " + same + ")", x.ends(same, same), false);
            Check.duePath(x, 0, 7, 2, 4);
        }
        Check.due("paths()", x.paths(), 1);
    }
}
