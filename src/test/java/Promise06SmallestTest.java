/** Promise 6: smallest answers the smallest name of the allowed cuts with the least value. */
public final class Promise06SmallestTest {
    public static void main(String[] args) {
        Check.test("Of the allowed cuts", Promise06SmallestTest::onlyAllowedCutsCount);
        Check.test("with that least value", Promise06SmallestTest::theValueGoesBeforeTheMask);
        Check.test("the one whose name is smallest as a mask", Promise06SmallestTest::theSmallestMaskWinsATie);
        Check.test("its name: the set without vertex 0", Promise06SmallestTest::namesNeverHaveVertexZero);
        Check.test("bit v for vertex v", Promise06SmallestTest::bitsAreVertices);
        Check.test("NONE if no cut is allowed", Promise06SmallestTest::isNoneIfNoCutIsAllowed);
        Check.end();
    }

    private static void onlyAllowedCutsCount() {
        GlobalMinCut graph = new GlobalMinCut(4);
        graph.weight(0, 1, 1);
        graph.weight(0, 2, 2);
        graph.weight(0, 3, 4);
        Check.due("smallest()", graph.smallest(), 2);
        graph.glue(1, 2, true);
        Check.due("smallest() with 1, 2 glued", graph.smallest(), 6);
        graph.glue(0, 2, true);
        Check.due("smallest() with 0, 1, 2 glued", graph.smallest(), 8);
        // The cut 2 has the least value too, but is not allowed.
        GlobalMinCut tie = Graphs.complete(3, 5);
        tie.glue(0, 1, true);
        Check.due("smallest() of a tie with 0, 1 glued", tie.smallest(), 4);
    }

    private static void theValueGoesBeforeTheMask() {
        GlobalMinCut graph = new GlobalMinCut(4);
        graph.weight(0, 1, 6);
        graph.weight(0, 2, 5);
        graph.weight(0, 3, 4);
        Check.due("smallest() of a star", graph.smallest(), 8);
        graph.weight(0, 3, 5);
        Check.due("smallest() of a star with a tie", graph.smallest(), 4);
    }

    private static void theSmallestMaskWinsATie() {
        GlobalMinCut graph = new GlobalMinCut(4);
        graph.weight(0, 1, 2);
        graph.weight(1, 2, 2);
        graph.weight(2, 3, 2);
        Check.due("smallest() of a path", graph.smallest(), 8);
        graph.weight(3, 0, 2);
        Check.due("smallest() of a ring", graph.smallest(), 2);
        graph.weight(0, 1, 3);
        Check.due("smallest() of a ring with a heavy pair", graph.smallest(), 4);
        // Two vertices (mask 6) go before one (mask 8): the mask counts, not the number of vertices.
        GlobalMinCut pairs = new GlobalMinCut(4);
        pairs.weight(1, 2, 9);
        pairs.weight(0, 1, 3);
        pairs.weight(0, 3, 3);
        Check.due("smallest() of a cut with two vertices", pairs.smallest(), 6);
    }

    /** The least cut has vertex 0 alone on one side: its name is the other side. */
    private static void namesNeverHaveVertexZero() {
        for (int n = 3; n <= 9; n++) {
            GlobalMinCut graph = new GlobalMinCut(n);
            for (int v = 2; v < n; v++) {
                graph.weight(v - 1, v, 9);
            }
            graph.weight(0, n - 1, 1);
            Check.due("smallest() with " + n + " vertices", graph.smallest(), Graphs.allOf(n) - 1);
        }
    }

    private static void bitsAreVertices() {
        for (int n = 3; n <= 9; n++) {
            for (int v = 1; v < n; v++) {
                GlobalMinCut graph = Graphs.complete(n, 9);
                graph.weight(0, v, 8);
                graph.weight(v, v == 1 ? 2 : 1, 8);
                Check.due("of " + n + " vertices, " + v + " alone, smallest()", graph.smallest(), 1 << v);
            }
        }
    }

    private static void isNoneIfNoCutIsAllowed() {
        for (int n = 2; n <= 9; n++) {
            for (int weight = 0; weight <= 50; weight += 50) {
                GlobalMinCut graph = Graphs.complete(n, weight);
                Graphs.glueChain(graph, 0, n - 2);
                String of = "of " + n + " vertices with weights " + weight + ", ";
                Check.due(of + "all but the last glued, smallest()", graph.smallest(), 1 << n - 1);
                graph.glue(n - 1, 0, true);
                Check.due(of + "all glued, smallest()", graph.smallest(), -3);
            }
        }
    }
}
