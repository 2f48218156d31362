/** Promise 7: between answers the least value of an allowed cut that separates two vertices. */
public final class Promise07BetweenTest {
    public static void main(String[] args) {
        Check.test("The least value of a cut that separates u and v", Promise07BetweenTest::ofAPath);
        Check.test("The least value of an allowed cut that separates u and v", Promise07BetweenTest::ofAGluedGraph);
        Check.test("u or v not in 0 to n - 1: BAD_VERTEX", Promise07BetweenTest::refusesWrongVertices);
        Check.test("u == v: BAD_VERTEX", Promise07BetweenTest::refusesTheSameVertexTwice);
        Check.test("NONE if there is none: the pair is glued", Promise07BetweenTest::isNoneIfThePairIsGlued);
        Check.test("NONE if there is none: held together through others", Promise07BetweenTest::isNoneThroughOthers);
        Check.test("NONE if there is none: all is glued", Promise07BetweenTest::isNoneIfAllIsGlued);
        Check.end();
    }

    private static void ofAPath() {
        GlobalMinCut graph = new GlobalMinCut(4);
        graph.weight(0, 1, 9);
        graph.weight(1, 2, 4);
        graph.weight(2, 3, 7);
        int[][] due = {{0, 9, 4, 4}, {9, 0, 4, 4}, {4, 4, 0, 7}, {4, 4, 7, 0}};
        for (int u = 0; u < 4; u++) {
            for (int v = 0; v < 4; v++) {
                int want = u == v ? -1 : due[u][v];
                Check.due("between(" + u + ", " + v + ")", graph.between(u, v), want);
            }
        }
    }

    /** Glue leaves out the cheap cut, so the answer is the next one. */
    private static void ofAGluedGraph() {
        GlobalMinCut graph = new GlobalMinCut(4);
        graph.weight(0, 1, 9);
        graph.weight(1, 2, 4);
        graph.weight(2, 3, 7);
        graph.glue(1, 2, true);
        Check.due("between(0, 3)", graph.between(0, 3), 7);
        Check.due("between(3, 1)", graph.between(3, 1), 7);
        Check.due("between(0, 2)", graph.between(0, 2), 9);
        GlobalMinCut heaviest = Graphs.complete(9, 50);
        Graphs.glueChain(heaviest, 0, 3);
        Graphs.glueChain(heaviest, 4, 8);
        Check.due("between(3, 4) with the greatest value", heaviest.between(3, 4), 1000);
    }

    private static void refusesWrongVertices() {
        Refusals.ofWrongVertices("between(u, v)", GlobalMinCut::between);
    }

    private static void refusesTheSameVertexTwice() {
        Refusals.ofTheSameVertexTwice("between(u, v)", GlobalMinCut::between);
    }

    private static void isNoneIfThePairIsGlued() {
        for (int u = 0; u < 9; u++) {
            for (int v = u + 1; v < 9; v++) {
                GlobalMinCut graph = Graphs.complete(9, 1);
                String pair = "(" + u + ", " + v + ")";
                Check.due("between" + pair, graph.between(u, v), 8);
                graph.glue(u, v, true);
                Check.due("glued, between" + pair, graph.between(u, v), -3);
                Check.due("glued, between" + pair + " turned round", graph.between(v, u), -3);
            }
        }
    }

    /** Others can still be separated, so it is not the whole graph that has no allowed cut. */
    private static void isNoneThroughOthers() {
        GlobalMinCut graph = new GlobalMinCut(9);
        graph.glue(8, 0, true);
        graph.glue(0, 5, true);
        graph.glue(5, 2, true);
        Check.due("between(2, 8)", graph.between(2, 8), -3);
        Check.due("between(8, 5)", graph.between(8, 5), -3);
        Check.due("between(0, 2)", graph.between(0, 2), -3);
        Check.due("between(1, 8)", graph.between(1, 8), 0);
        Check.due("between(1, 3)", graph.between(1, 3), 0);
        Check.due("least()", graph.least(), 0);
    }

    private static void isNoneIfAllIsGlued() {
        for (int n = 2; n <= 9; n++) {
            GlobalMinCut graph = Graphs.allGlued(n, 6);
            for (int u = 0; u < n; u++) {
                for (int v = u + 1; v < n; v++) {
                    String told = "of " + n + " vertices, all glued, between(" + u + ", " + v + ")";
                    Check.due(told, graph.between(u, v), -3);
                }
            }
        }
    }
}
