import java.util.List;

/** What the calls on a pair share: wrong pairs are answered with BAD_VERTEX and change nothing. */
final class Refusals {
    interface PairCall {
        int on(GlobalMinCut graph, int u, int v);
    }

    private Refusals() {
    }

    static void ofWrongVertices(String call, PairCall asked) {
        for (int n = 2; n <= 9; n++) {
            areRefused(call, new GlobalMinCut(n), n, Graphs.pairsWithWrongVertex(n), asked);
            acceptsAllPairs(call, n, asked);
        }
    }

    static void ofTheSameVertexTwice(String call, PairCall asked) {
        for (int n = 2; n <= 9; n++) {
            areRefused(call, new GlobalMinCut(n), n, Graphs.pairsOfTheSame(n), asked);
        }
    }

    static void changeNothing(String call, PairCall asked) {
        for (int n = 2; n <= 9; n++) {
            GlobalMinCut graph = Graphs.marked(n);
            areRefused(call, graph, n, Graphs.wrongPairs(n), asked);
            Graphs.isAsMade("after refused calls of " + call, graph, n);
        }
    }

    private static void areRefused(String call, GlobalMinCut graph, int n, List<int[]> pairs, PairCall asked) {
        for (int[] pair : pairs) {
            String told = call + " of " + n + " vertices with u = " + pair[0] + ", v = " + pair[1];
            Check.due(told, asked.on(graph, pair[0], pair[1]), GlobalMinCut.BAD_VERTEX);
        }
    }

    /** The pairs inside the bounds are not refused: on a new object all these calls answer 0 or more. */
    private static void acceptsAllPairs(String call, int n, PairCall asked) {
        GlobalMinCut graph = new GlobalMinCut(n);
        for (int u = 0; u < n; u++) {
            for (int v = 0; v < n; v++) {
                String told = call + " of " + n + " vertices is taken with u = " + u + ", v = " + v;
                if (u != v) {
                    Check.due(told, asked.on(graph, u, v) >= 0 ? 1 : 0, 1);
                }
            }
        }
    }
}
