/** Promise 9: separated counts the pairs that some allowed cut with the least value separates. */
public final class Promise09SeparatedTest {
    public static void main(String[] args) {
        Check.test("How many pairs u < v of vertices", Promise09SeparatedTest::pairsCountOnce);
        Check.test("some cut with the least value separates", Promise09SeparatedTest::anyLeastCutWillDo);
        Check.test("only a cut with the least value", Promise09SeparatedTest::otherCutsDoNotCount);
        Check.test("only an allowed cut", Promise09SeparatedTest::onlyAllowedCutsCount);
        Check.test("0 if no cut is allowed", Promise09SeparatedTest::isZeroIfNoCutIsAllowed);
        Check.end();
    }

    /** Without weights every cut is a least one: all pairs, each of them once. */
    private static void pairsCountOnce() {
        int[] due = {0, 0, 1, 3, 6, 10, 15, 21, 28, 36};
        for (int n = 2; n <= 9; n++) {
            GlobalMinCut graph = new GlobalMinCut(n);
            Check.due("of " + n + " vertices without weights, separated()", graph.separated(), due[n]);
        }
    }

    private static void anyLeastCutWillDo() {
        GlobalMinCut graph = new GlobalMinCut(5);
        graph.weight(0, 1, 3);
        graph.weight(1, 2, 9);
        graph.weight(2, 3, 9);
        graph.weight(3, 4, 3);
        Check.due("separated() with two least cuts", graph.separated(), 7);
        graph.weight(1, 2, 3);
        graph.weight(2, 3, 3);
        Check.due("separated() with four least cuts", graph.separated(), 10);
    }

    private static void otherCutsDoNotCount() {
        GlobalMinCut graph = new GlobalMinCut(5);
        graph.weight(0, 1, 9);
        graph.weight(1, 2, 3);
        graph.weight(2, 3, 9);
        graph.weight(3, 4, 9);
        Check.due("separated() of two and three", graph.separated(), 6);
        graph.weight(1, 2, 9);
        graph.weight(3, 4, 8);
        Check.due("separated() of four and one", graph.separated(), 4);
        graph.weight(3, 4, 9);
        Check.due("separated() with four least cuts", graph.separated(), 10);
    }

    /** The cuts with the smallest value of all are not allowed here: they neither count nor set the value. */
    private static void onlyAllowedCutsCount() {
        GlobalMinCut graph = new GlobalMinCut(4);
        graph.glue(0, 3, true);
        Check.due("separated() with 0, 3 glued", graph.separated(), 5);
        graph.glue(3, 1, true);
        Check.due("separated() with 0, 1, 3 glued", graph.separated(), 3);
        graph.weight(0, 2, 50);
        Check.due("separated() when the least value is 50", graph.separated(), 3);
    }

    private static void isZeroIfNoCutIsAllowed() {
        for (int n = 2; n <= 9; n++) {
            for (int weight = 0; weight <= 50; weight += 50) {
                GlobalMinCut graph = Graphs.complete(n, weight);
                Graphs.glueChain(graph, 0, n - 2);
                String of = "of " + n + " vertices with weights " + weight + ", ";
                Check.due(of + "all but the last glued, separated()", graph.separated(), n - 1);
                graph.glue(n - 1, 0, true);
                Check.due(of + "all glued, separated()", graph.separated(), 0);
            }
        }
    }
}
