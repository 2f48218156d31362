/** Promise 5: least answers the least value of an allowed cut. */
public final class Promise05LeastTest {
    public static void main(String[] args) {
        Check.test("The least value of a cut", Promise05LeastTest::ofTwoClusters);
        Check.test("The least value of a cut: the smallest and the greatest", Promise05LeastTest::atItsBounds);
        Check.test("The least value of an allowed cut", Promise05LeastTest::onlyAllowedCutsCount);
        Check.test("NONE if no cut is allowed", Promise05LeastTest::isNoneIfNoCutIsAllowed);
        Check.end();
    }

    /** The least cut has more than one vertex on both sides. */
    private static void ofTwoClusters() {
        GlobalMinCut graph = new GlobalMinCut(6);
        graph.weight(0, 2, 10);
        graph.weight(2, 4, 10);
        graph.weight(4, 0, 10);
        graph.weight(1, 3, 10);
        graph.weight(3, 5, 10);
        graph.weight(5, 1, 10);
        graph.weight(0, 1, 2);
        graph.weight(4, 5, 3);
        Check.due("least()", graph.least(), 5);
        Check.due("smallest()", graph.smallest(), 42);
        graph.glue(2, 3, true);
        Check.due("least() with the clusters glued", graph.least(), 22);
    }

    private static void atItsBounds() {
        GlobalMinCut two = new GlobalMinCut(2);
        Check.due("least() of two without weight", two.least(), 0);
        two.weight(0, 1, 50);
        Check.due("least() of two", two.least(), 50);
        GlobalMinCut heaviest = Graphs.complete(9, 50);
        Check.due("least() of the heaviest graph", heaviest.least(), 400);
        Graphs.glueChain(heaviest, 1, 4);
        Graphs.glueChain(heaviest, 5, 8);
        heaviest.glue(0, 8, true);
        Check.due("least() when only the heaviest cut is allowed", heaviest.least(), 1000);
    }

    private static void onlyAllowedCutsCount() {
        GlobalMinCut graph = new GlobalMinCut(3);
        graph.weight(0, 1, 5);
        graph.weight(1, 2, 3);
        graph.weight(0, 2, 4);
        Check.due("least()", graph.least(), 7);
        graph.glue(0, 2, true);
        Check.due("least() with 0, 2 glued", graph.least(), 8);
        graph.glue(0, 2, false);
        graph.glue(1, 2, true);
        Check.due("least() with 1, 2 glued", graph.least(), 9);
    }

    /** Up to the last glue one cut is left; whether there are weights makes no difference. */
    private static void isNoneIfNoCutIsAllowed() {
        for (int n = 2; n <= 9; n++) {
            for (int weight = 0; weight <= 50; weight += 50) {
                GlobalMinCut graph = Graphs.complete(n, weight);
                Graphs.glueChain(graph, 0, n - 2);
                String of = "of " + n + " vertices with weights " + weight + ", ";
                Check.due(of + "all but the last glued, least()", graph.least(), weight * (n - 1));
                graph.glue(n - 1, 0, true);
                Check.due(of + "all glued, least()", graph.least(), -3);
            }
        }
    }
}
