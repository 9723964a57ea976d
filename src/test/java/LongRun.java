/**
 * One object and the model of it, used for up to 512 calls. Each method makes one call, compares the
 * answer, and says which case of which promise it was.
 */
final class LongRun {
    static final int MOST_CALLS = 512;

    /** The cases that the long runs must meet, each at least once. */
    enum Case {
        NEW_OBJECT("Promise 1: asked before anything was set"),
        ARC_SET("Promise 2: an arc is set"),
        ARC_CHANGED("Promise 2: an arc is changed"),
        ARC_SAME("Promise 2: an arc is set to the weight that it has"),
        ARC_TAKEN_AWAY("Promise 2: an arc is taken away"),
        ARC_NOT_THERE("Promise 2: there is no arc to take away"),
        ARC_NO_VERTEX("Promise 2: refused, u or v outside 0..6"),
        ARC_LOOP("Promise 2: refused, u = v"),
        ARC_NO_WEIGHT("Promise 2: refused, weight outside 0..50"),
        ENDS_MOVED("Promise 3: the ends are moved"),
        ENDS_SWAPPED("Promise 3: the ends are swapped"),
        ENDS_SAME("Promise 3: the ends are set to where they are"),
        ENDS_NO_VERTEX("Promise 3: refused, s or t outside 0..6"),
        ENDS_LOOP("Promise 3: refused, s = t"),
        WEIGHT("Promise 4: the weight"),
        WEIGHT_NO_ARC("Promise 4: 0, there is no arc"),
        WEIGHT_BAD("Promise 4: BAD"),
        PATHS_NONE("Promise 5: no path"),
        PATHS_FEW("Promise 5: 1 to 11 paths"),
        PATHS_TWELVE("Promise 5: just 12 paths"),
        PATHS_MANY("Promise 5: more than 12 paths"),
        LENGTH("Promise 6: the length"),
        LENGTH_GREAT("Promise 6: the length, more than 255"),
        LENGTH_NO_PATH("Promise 6: NONE, no such path"),
        LENGTH_NO_NUMBER("Promise 6: NONE, k outside 0..11"),
        SIZE("Promise 7: the number of vertices"),
        SIZE_NO_PATH("Promise 7: NONE, no such path"),
        SIZE_NO_NUMBER("Promise 7: NONE, k outside 0..11"),
        VERTEX("Promise 8: the vertex"),
        VERTEX_NO_PATH("Promise 8: NONE, no such path"),
        VERTEX_NO_NUMBER("Promise 8: NONE, k outside 0..11"),
        VERTEX_NO_PLACE("Promise 8: NONE, i outside 0 .. size(k) - 1"),
        PASSING("Promise 9: some paths pass the arc"),
        PASSING_LATE("Promise 9: paths behind number 11 pass the arc too"),
        PASSING_NONE("Promise 9: 0, no path passes the arc"),
        PASSING_BAD("Promise 9: BAD"),
        AVOIDING_SHORTEST("Promise 10: a shortest path avoids the arc"),
        AVOIDING_LONGER("Promise 10: only longer paths avoid the arc"),
        AVOIDING_LATE("Promise 10: only paths behind number 11 avoid the arc"),
        AVOIDING_NONE("Promise 10: NONE, all paths pass the arc"),
        AVOIDING_NO_PATH("Promise 10: NONE, there is no path"),
        AVOIDING_BAD("Promise 10: BAD"),
        UNAVOIDABLE_ENDS("Promise 11: the ends alone"),
        UNAVOIDABLE_MORE("Promise 11: more than the ends"),
        UNAVOIDABLE_LATE("Promise 11: a path behind number 11 avoids what the first twelve share"),
        UNAVOIDABLE_NO_PATH("Promise 11: all seven, there is no path"),
        BAD_BEFORE_NONE("Promise 12: BAD, though there is no path"),
        LAST_CALL("An object is used for at most 512 calls: the 512th");

        final String words;

        Case(String words) {
            this.words = "long runs, " + words;
        }
    }

    private final String name;
    private final YenKPaths x = new YenKPaths();
    private final Model model = new Model();
    private boolean touched = false;
    private int calls = 0;
    private int source = 0;
    private int target = 6;

    LongRun(String name) {
        this.name = name;
    }

    Model model() {
        return model;
    }

    int source() {
        return source;
    }

    int target() {
        return target;
    }

    int calls() {
        return calls;
    }

    boolean isOver() {
        return calls >= MOST_CALLS;
    }

    void arc(int u, int v, int weight) {
        Case which = caseOfArc(u, v, weight);
        boolean want = model.arc(u, v, weight);
        touched |= want;
        due(which, "arc(" + u + ", " + v + ", " + weight + ")", x.arc(u, v, weight) ? 1 : 0, want ? 1 : 0);
    }

    private Case caseOfArc(int u, int v, int weight) {
        if (!Model.inside(u) || !Model.inside(v)) {
            return Case.ARC_NO_VERTEX;
        }
        if (u == v) {
            return Case.ARC_LOOP;
        }
        if (weight < 0 || weight > 50) {
            return Case.ARC_NO_WEIGHT;
        }
        int before = model.weight(u, v);
        if (weight == 0) {
            return before == 0 ? Case.ARC_NOT_THERE : Case.ARC_TAKEN_AWAY;
        }
        return before == 0 ? Case.ARC_SET : before == weight ? Case.ARC_SAME : Case.ARC_CHANGED;
    }

    void ends(int s, int t) {
        Case which = caseOfEnds(s, t);
        boolean want = model.ends(s, t);
        touched |= want;
        due(which, "ends(" + s + ", " + t + ")", x.ends(s, t) ? 1 : 0, want ? 1 : 0);
        if (want) {
            source = s;
            target = t;
        }
    }

    private Case caseOfEnds(int s, int t) {
        if (!Model.inside(s) || !Model.inside(t)) {
            return Case.ENDS_NO_VERTEX;
        }
        if (s == t) {
            return Case.ENDS_LOOP;
        }
        if (s == source && t == target) {
            return Case.ENDS_SAME;
        }
        return s == target && t == source ? Case.ENDS_SWAPPED : Case.ENDS_MOVED;
    }

    void weight(int u, int v) {
        int want = model.weight(u, v);
        Case which = want == YenKPaths.BAD ? Case.WEIGHT_BAD : want == 0 ? Case.WEIGHT_NO_ARC : Case.WEIGHT;
        dueAnswer(which, "weight(" + u + ", " + v + ")", x.weight(u, v), want);
    }

    void paths() {
        int all = model.allPaths();
        Case which = all == 0 ? Case.PATHS_NONE : all < 12 ? Case.PATHS_FEW
                : all == 12 ? Case.PATHS_TWELVE : Case.PATHS_MANY;
        dueAnswer(which, "paths()", x.paths(), model.paths());
    }

    void length(int k) {
        int want = model.length(k);
        Case which = !isNumber(k) ? Case.LENGTH_NO_NUMBER : k >= model.paths() ? Case.LENGTH_NO_PATH
                : want > 255 ? Case.LENGTH_GREAT : Case.LENGTH;
        dueAnswer(which, "length(" + k + ")", x.length(k), want);
    }

    void size(int k) {
        Case which = !isNumber(k) ? Case.SIZE_NO_NUMBER : k >= model.paths() ? Case.SIZE_NO_PATH : Case.SIZE;
        dueAnswer(which, "size(" + k + ")", x.size(k), model.size(k));
    }

    void vertex(int k, int i) {
        int want = model.vertex(k, i);
        Case which = !isNumber(k) ? Case.VERTEX_NO_NUMBER : k >= model.paths() ? Case.VERTEX_NO_PATH
                : want == YenKPaths.NONE ? Case.VERTEX_NO_PLACE : Case.VERTEX;
        dueAnswer(which, "vertex(" + k + ", " + i + ")", x.vertex(k, i), want);
    }

    private static boolean isNumber(int k) {
        return 0 <= k && k <= 11;
    }

    void passing(int u, int v) {
        int want = model.passing(u, v);
        boolean late = model.passingAmongFirst(model.allPaths(), u, v) > want;
        Case which = want == YenKPaths.BAD ? Case.PASSING_BAD : late ? Case.PASSING_LATE
                : want == 0 ? Case.PASSING_NONE : Case.PASSING;
        dueAnswer(which, "passing(" + u + ", " + v + ")", x.passing(u, v), want);
    }

    void avoiding(int u, int v) {
        int want = model.avoiding(u, v);
        dueAnswer(caseOfAvoiding(u, v, want), "avoiding(" + u + ", " + v + ")", x.avoiding(u, v), want);
    }

    private Case caseOfAvoiding(int u, int v, int want) {
        boolean noPath = model.paths() == 0;
        if (want == YenKPaths.BAD) {
            return noPath ? Case.BAD_BEFORE_NONE : Case.AVOIDING_BAD;
        }
        if (want == YenKPaths.NONE) {
            return noPath ? Case.AVOIDING_NO_PATH : Case.AVOIDING_NONE;
        }
        if (want == model.length(0)) {
            return Case.AVOIDING_SHORTEST;
        }
        return model.passing(u, v) == 12 ? Case.AVOIDING_LATE : Case.AVOIDING_LONGER;
    }

    void unavoidable() {
        int want = model.unavoidable();
        Case which = model.paths() == 0 ? Case.UNAVOIDABLE_NO_PATH
                : want != model.sharedByFirst(12) ? Case.UNAVOIDABLE_LATE
                : want == (1 << source | 1 << target) ? Case.UNAVOIDABLE_ENDS : Case.UNAVOIDABLE_MORE;
        dueAnswer(which, "unavoidable()", x.unavoidable(), want);
    }

    private void dueAnswer(Case which, String call, int got, int want) {
        due(touched ? which : Case.NEW_OBJECT, call, got, want);
    }

    private void due(Case which, String call, int got, int want) {
        calls++;
        if (calls > MOST_CALLS) {
            throw new IllegalStateException(name + " makes more calls than an object is good for");
        }
        String where = name + ", call " + calls + ": " + call;
        Check.sentence(which.words);
        Check.due(where, got, want);
        if (calls == MOST_CALLS) {
            Check.sentence(Case.LAST_CALL.words);
            Check.due(where, got, want);
        }
    }
}
