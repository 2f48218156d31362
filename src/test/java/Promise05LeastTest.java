/** Promise 5: least answers the least value of an allowed cut. */
public final class Promise05LeastTest {
    public static void main(String[] args) {
        ofATriangle();
        ofTwoClusters();
        ofTheHeaviestGraph();
        isNoneWhenAllIsGlued();
        Check.end();
    }

    private static void ofATriangle() {
        GlobalMinCut graph = new GlobalMinCut(3);
        graph.weight(0, 1, 5);
        graph.weight(1, 2, 3);
        graph.weight(0, 2, 4);
        Check.due("least()", graph.least(), 7);
        graph.glue(0, 2, true);
        Check.due("least() with 0, 2 glued", graph.least(), 8);
        graph.glue(1, 2, true);
        Check.due("least() with all glued", graph.least(), -3);
        graph.glue(0, 2, false);
        Check.due("least() with 1, 2 glued", graph.least(), 9);
    }

    /** The least cut has more than one vertex on both sides. */
    private static void ofTwoClusters() {
        GlobalMinCut graph = new GlobalMinCut(6);
        graph.weight(0, 2, 10);
        graph.weight(2, 4, 10);
        graph.weight(4, 0, 10);
        graph.weight(1, 3, 10);
        graph.weight(3, 5, 10);
        graph.weight(5, 1, 10);
        graph.weight(0, 1, 2);
        graph.weight(4, 5, 3);
        Check.due("least()", graph.least(), 5);
        Check.due("smallest()", graph.smallest(), 42);
        graph.glue(2, 3, true);
        Check.due("least() with the clusters glued", graph.least(), 22);
    }

    private static void ofTheHeaviestGraph() {
        GlobalMinCut graph = new GlobalMinCut(9);
        for (int u = 0; u < 9; u++) {
            for (int v = u + 1; v < 9; v++) {
                graph.weight(u, v, 50);
            }
        }
        Check.due("least()", graph.least(), 400);
        for (int v = 2; v < 5; v++) {
            graph.glue(v - 1, v, true);
            graph.glue(v + 3, v + 4, true);
        }
        graph.glue(0, 8, true);
        Check.due("least() of five and four", graph.least(), 1000);
    }

    private static void isNoneWhenAllIsGlued() {
        for (int n = 2; n <= 9; n++) {
            GlobalMinCut graph = new GlobalMinCut(n);
            for (int v = 1; v < n; v++) {
                Check.due("least() with " + n + " vertices ahead of glue " + v, graph.least(), 0);
                graph.glue(v, v - 1, true);
            }
            Check.due("least() with " + n + " vertices all glued", graph.least(), -3);
        }
    }
}
