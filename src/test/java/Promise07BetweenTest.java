/** Promise 7: between answers the least value of an allowed cut that separates two vertices. */
public final class Promise07BetweenTest {
    public static void main(String[] args) {
        ofAPath();
        ofAGluedGraph();
        isNoneWhenGluedThroughAThird();
        refusesBadVertices();
        Check.end();
    }

    private static void ofAPath() {
        GlobalMinCut graph = new GlobalMinCut(4);
        graph.weight(0, 1, 9);
        graph.weight(1, 2, 4);
        graph.weight(2, 3, 7);
        int[][] due = {{0, 9, 4, 4}, {9, 0, 4, 4}, {4, 4, 0, 7}, {4, 4, 7, 0}};
        for (int u = 0; u < 4; u++) {
            for (int v = 0; v < 4; v++) {
                int want = u == v ? -1 : due[u][v];
                Check.due("between(" + u + ", " + v + ")", graph.between(u, v), want);
            }
        }
    }

    /** Glue leaves out the cheap cut, so the answer is the next one. */
    private static void ofAGluedGraph() {
        GlobalMinCut graph = new GlobalMinCut(4);
        graph.weight(0, 1, 9);
        graph.weight(1, 2, 4);
        graph.weight(2, 3, 7);
        graph.glue(1, 2, true);
        Check.due("between(0, 3)", graph.between(0, 3), 7);
        Check.due("between(3, 1)", graph.between(3, 1), 7);
        Check.due("between(0, 2)", graph.between(0, 2), 9);
        Check.due("between(1, 2)", graph.between(1, 2), -3);
        Check.due("between(2, 1)", graph.between(2, 1), -3);
    }

    private static void isNoneWhenGluedThroughAThird() {
        GlobalMinCut graph = new GlobalMinCut(5);
        graph.glue(4, 0, true);
        graph.glue(0, 2, true);
        Check.due("between(2, 4)", graph.between(2, 4), -3);
        Check.due("between(1, 4)", graph.between(1, 4), 0);
        Check.due("between(1, 3)", graph.between(1, 3), 0);
    }

    private static void refusesBadVertices() {
        GlobalMinCut graph = new GlobalMinCut(4);
        int[][] bad = {{-1, 0}, {0, -1}, {4, 0}, {0, 4}, {0, 0}, {3, 3}, {4, 4}, {-1, -1}, {1, 8}, {0, 32}, {33, 0},
            {Integer.MIN_VALUE, 0}, {0, Integer.MAX_VALUE}};
        for (int[] pair : bad) {
            Check.due("between(" + pair[0] + ", " + pair[1] + ")", graph.between(pair[0], pair[1]), -1);
        }
    }
}
