/**
 * Long runs of calls on one object, in which arcs are set, changed and taken away, the ends are moved
 * and the questions are asked in between. The calls come from a fixed formula, so that every run of
 * the test is the same.
 */
public final class LongRunsTest {
    private static final int MIXED_RUNS = 3240;
    private static final int QUESTIONS = 8;
    private static final int CALLS_OF_ASK_ALL = 257;
    private static final int CALLS_OF_A_PHASE = 64;

    /** The kinds of graphs. */
    private static final int GRAPHS = 6;
    // Weights go from 1 to this in the first kinds; small ones give many paths of the same length.
    private static final int[] SPREADS = {1, 2, 5, 50};
    // Only one light arc leaves vertex 0: the first twelve paths pass it, and those behind them do not.
    private static final int GATE = 4;
    // The arcs that lead round all vertices come most often, and all are heavy: few and long paths.
    private static final int CHAIN = 5;

    private final LongRun run;
    private long seed;
    private final int graph;
    private final int behindTheGate;
    private int u = 0;
    private int v = 6;

    private LongRunsTest(String name, long seed, int graph) {
        run = new LongRun(name);
        this.seed = (seed + 1) * 0x9E3779B97F4A7C15L;
        this.graph = graph;
        behindTheGate = 1 + below(5);
    }

    public static void main(String[] args) {
        for (LongRun.Case which : LongRun.Case.values()) {
            Check.sentence(which.words);
        }
        for (int question = 0; question < QUESTIONS; question++) {
            for (int graph = 0; graph < GRAPHS; graph++) {
                String name = "question " + question + ", graph " + graph;
                new LongRunsTest("arc by arc, " + name, question, graph).arcByArc(question);
                new LongRunsTest("ends by ends, " + name, question, graph).endsByEnds(question);
            }
            new LongRunsTest("round the gate, question " + question, question, GATE).roundTheGate(question);
        }
        for (int n = 0; n < MIXED_RUNS; n++) {
            new LongRunsTest("mixed run " + n, n, n % GRAPHS).mixed(n / GRAPHS);
        }
        Check.end();
    }

    private int below(int bound) {
        seed = seed * 6364136223846793005L + 1442695040888963407L;
        return (int) ((seed >>> 33) % bound);
    }

    private boolean onceIn(int times) {
        return below(times) == 0;
    }

    /** Each arc is set, then each is changed, then each is taken away; one question in between. */
    private void arcByArc(int question) {
        for (int pass = 0; pass < 3; pass++) {
            for (int cell = 0; cell < 49; cell++) {
                // 11 has no factor in common with 49, so this comes to each cell once.
                u = cell * 11 % 49 / 7;
                v = cell * 11 % 49 % 7;
                if (u != v) {
                    run.arc(u, v, pass == 2 ? 0 : otherWeight());
                    askTimes(3, question);
                }
            }
        }
    }

    /** The ends are moved to each pair, and an arc is changed each time; one question in between. */
    private void endsByEnds(int question) {
        setAllArcs();
        for (int s = 0; s < 7; s++) {
            for (int t = 0; t < 7; t++) {
                if (s != t) {
                    run.ends(s, t);
                    askTimes(4, question);
                    changeArc(2);
                    askTimes(5, question);
                }
            }
        }
    }

    private void setAllArcs() {
        for (u = 0; u < 7; u++) {
            for (v = 0; v < 7; v++) {
                if (u != v) {
                    run.arc(u, v, someWeight());
                }
            }
        }
    }

    /**
     * A way round the gate is set, changed and taken away. It is always longer than twelve other
     * paths, so only avoiding and unavoidable are to speak of it.
     */
    private void roundTheGate(int question) {
        setAllArcs();
        for (int to = 1; to < 7; to++) {
            if (to != behindTheGate) {
                run.arc(0, to, 0);
            }
        }
        for (int turn = 0; turn < 18; turn++) {
            int to = 1 + turn % 6;
            if (to != behindTheGate) {
                run.arc(0, to, 49);
                askTimes(8, question);
                run.arc(0, to, 50);
                askTimes(8, question);
                run.arc(0, to, 0);
                askTimes(8, question);
            }
        }
    }

    /** All kinds of calls; the kind says how many are changes, and which question is asked most. */
    private void mixed(int kind) {
        int changesOfSixteen = new int[] {1, 4, 8, 13}[kind % 4];
        int building = new int[] {0, 40, 120}[kind / 4 % 3];
        int favourite = kind / 12 % (QUESTIONS + 1);
        int end = LongRun.MOST_CALLS - (kind % 5 == 0 ? CALLS_OF_ASK_ALL : 0);
        while (run.calls() < end) {
            if (run.calls() < building) {
                changeArc(8);
            } else if (below(16) < changesOfSixteen) {
                change();
            } else if (favourite < QUESTIONS && onceIn(2)) {
                ask(favourite);
            } else {
                ask(below(QUESTIONS));
            }
        }
        if (!run.isOver()) {
            askAll();
        }
    }

    private void change() {
        if (onceIn(8)) {
            moveEnds();
        } else {
            // The arcs become more and fewer in turn, so that runs meet no path, few and many.
            boolean thinning = run.calls() / CALLS_OF_A_PHASE % 2 == 1;
            changeArc(thinning ? 2 : 10);
        }
    }

    private void moveEnds() {
        if (graph == GATE && onceIn(2)) {
            run.ends(0, someVertex());
        } else if (onceIn(5)) {
            run.ends(run.target(), run.source());
        } else {
            run.ends(onceIn(4) ? run.source() : someVertex(), onceIn(4) ? run.target() : someVertex());
        }
    }

    private void changeArc(int oneInSoManyIsTakenAway) {
        chooseArc();
        if (graph == CHAIN && !onceIn(3)) {
            u = below(7);
            v = (u + 1) % 7;
        }
        if (onceIn(25)) {
            run.arc(u, v, oneOf(Sample.NO_WEIGHTS));
        } else {
            run.arc(u, v, onceIn(oneInSoManyIsTakenAway) ? 0 : someWeight());
        }
    }

    private int someWeight() {
        if (graph == GATE) {
            return u == 0 && v != behindTheGate ? 48 + below(3) : 1 + below(3);
        }
        return graph == CHAIN ? 48 + below(3) : 1 + below(SPREADS[graph]);
    }

    private int otherWeight() {
        int weight = someWeight();
        if (weight != run.model().weight(u, v)) {
            return weight;
        }
        return weight == 50 ? 49 : weight + 1;
    }

    /** Any pair, an arc of a path, or the pair of the call before: most pairs are on no path. */
    private void chooseArc() {
        int way = below(4);
        int paths = run.model().paths();
        if (way == 0 && paths > 0) {
            int k = below(paths);
            int i = below(run.model().size(k) - 1);
            u = run.model().vertex(k, i);
            v = run.model().vertex(k, i + 1);
        } else if (way != 1) {
            u = someVertex();
            v = someVertex();
        }
    }

    private int someVertex() {
        return onceIn(30) ? oneOf(Sample.NO_VERTICES) : below(7);
    }

    private int someNumber() {
        if (onceIn(10)) {
            return oneOf(Sample.NO_NUMBERS);
        }
        int paths = run.model().paths();
        return below(paths > 0 && onceIn(2) ? paths : 12);
    }

    private int somePlace() {
        return onceIn(10) ? oneOf(Sample.NO_VERTICES) : below(7);
    }

    private int oneOf(int[] values) {
        return values[below(values.length)];
    }

    private void askTimes(int times, int question) {
        for (int n = 0; n < times; n++) {
            ask(question);
        }
    }

    private void ask(int question) {
        switch (question) {
            case 0 -> run.paths();
            case 1 -> run.unavoidable();
            case 2 -> run.length(someNumber());
            case 3 -> run.size(someNumber());
            case 4 -> run.vertex(someNumber(), somePlace());
            default -> askAboutArc(question);
        }
    }

    private void askAboutArc(int question) {
        chooseArc();
        switch (question) {
            case 5 -> run.weight(u, v);
            case 6 -> run.passing(u, v);
            default -> run.avoiding(u, v);
        }
    }

    /** Every question with every argument inside its range. */
    private void askAll() {
        run.paths();
        run.unavoidable();
        for (int from = 0; from < 7; from++) {
            for (int to = 0; to < 7; to++) {
                run.weight(from, to);
                run.passing(from, to);
                run.avoiding(from, to);
            }
        }
        for (int k = 0; k < 12; k++) {
            run.length(k);
            run.size(k);
            for (int i = 0; i < 7; i++) {
                run.vertex(k, i);
            }
        }
    }
}
