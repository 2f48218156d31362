/** Promise 11: BAD_VERTEX is tested before BAD_WEIGHT and before NONE. */
public final class Promise11OrderTest {
    private static final int[] WRONG_WEIGHTS = {-1, 51, Integer.MIN_VALUE, Integer.MAX_VALUE};

    public static void main(String[] args) {
        Check.test("weight: BAD_VERTEX is tested before BAD_WEIGHT.", Promise11OrderTest::weightTestsVerticesFirst);
        Check.test("between: BAD_VERTEX before NONE.", Promise11OrderTest::betweenTestsVerticesFirst);
        Check.test("without: BAD_VERTEX before NONE, of glued vertices.", Promise11OrderTest::withoutTestsVertexFirst);
        Check.test("without: BAD_VERTEX before NONE, of two.", Promise11OrderTest::withoutOfTwoTestsVertexFirst);
        Check.end();
    }

    private static void weightTestsVerticesFirst() {
        for (int weight : WRONG_WEIGHTS) {
            String call = "weight(u, v, " + weight + ")";
            Refusals.changeNothing(call, (graph, u, v) -> graph.weight(u, v, weight));
            GlobalMinCut right = new GlobalMinCut(3);
            Check.due(call + " of a right pair", right.weight(0, 2, weight), -2);
        }
    }

    /** With all glued every right pair says NONE, so the wrong ones show which test comes first. */
    private static void betweenTestsVerticesFirst() {
        for (int n = 2; n <= 9; n++) {
            GlobalMinCut graph = Graphs.allGlued(n, 4);
            Check.due("of " + n + " vertices, all glued, between(0, n - 1)", graph.between(0, n - 1), -3);
            for (int[] pair : Graphs.wrongPairs(n)) {
                String told = "of " + n + " vertices, all glued, between(" + pair[0] + ", " + pair[1] + ")";
                Check.due(told, graph.between(pair[0], pair[1]), -1);
            }
        }
    }

    private static void withoutTestsVertexFirst() {
        for (int n = 3; n <= 9; n++) {
            GlobalMinCut graph = Graphs.allGlued(n, 4);
            graph.glue(0, n - 1, true);
            for (int v = 0; v < n; v++) {
                Check.due("of " + n + " vertices, glued in a ring, without(" + v + ")", graph.without(v), -3);
            }
            for (int v : Graphs.wrongVertices(n)) {
                Check.due("of " + n + " vertices, glued in a ring, without(" + v + ")", graph.without(v), -1);
            }
        }
    }

    private static void withoutOfTwoTestsVertexFirst() {
        GlobalMinCut two = new GlobalMinCut(2);
        Check.due("of two vertices, without(1)", two.without(1), -3);
        for (int v : Graphs.wrongVertices(2)) {
            Check.due("of two vertices, without(" + v + ")", two.without(v), -1);
        }
    }
}
