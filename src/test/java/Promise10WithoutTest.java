/** Promise 10: without answers the least value as if one vertex were not there. */
public final class Promise10WithoutTest {
    public static void main(String[] args) {
        Check.test("How much the least value would be if vertex v were not there", Promise10WithoutTest::ofAnyVertex);
        Check.test("its pairs with it", Promise10WithoutTest::leavesOutItsPairs);
        Check.test("its glue with it", Promise10WithoutTest::leavesOutItsGlue);
        Check.test("the glue of the others stays", Promise10WithoutTest::keepsTheGlueOfTheOthers);
        Check.test("NONE if no cut is allowed then", Promise10WithoutTest::isNoneWhenTheRestIsGlued);
        Check.test("NONE if only one vertex would be left", Promise10WithoutTest::isNoneWhenOneVertexIsLeft);
        Check.test("v not in 0 to n - 1: BAD_VERTEX", Promise10WithoutTest::refusesWrongVertices);
        Check.end();
    }

    private static void ofAnyVertex() {
        for (int n = 3; n <= 9; n++) {
            GlobalMinCut graph = Graphs.complete(n, 50);
            for (int v = 0; v < n; v++) {
                Check.due("of " + n + " vertices, without(" + v + ")", graph.without(v), 50 * (n - 2));
            }
            Check.due("of " + n + " vertices, least() after them", graph.least(), 50 * (n - 1));
        }
    }

    private static void leavesOutItsPairs() {
        GlobalMinCut graph = new GlobalMinCut(4);
        graph.weight(0, 1, 10);
        graph.weight(0, 2, 20);
        graph.weight(0, 3, 30);
        graph.weight(1, 2, 1);
        graph.weight(1, 3, 2);
        graph.weight(2, 3, 4);
        Check.due("without(0)", graph.without(0), 3);
        Check.due("without(1)", graph.without(1), 24);
        Check.due("without(2)", graph.without(2), 12);
        Check.due("without(3)", graph.without(3), 11);
        Check.due("least()", graph.least(), 13);
    }

    /** Vertices that only the left-out one holds together come apart. */
    private static void leavesOutItsGlue() {
        for (int n = 3; n <= 9; n++) {
            for (int gone = 0; gone < n; gone++) {
                GlobalMinCut graph = Graphs.complete(n, 6);
                for (int v = 0; v < n; v++) {
                    graph.glue(gone, v, true);
                }
                String star = "of " + n + " vertices, all glued to " + gone + ", ";
                Check.due(star + "least()", graph.least(), -3);
                Check.due(star + "without it", graph.without(gone), 6 * (n - 2));
                int other = gone == 0 ? n - 1 : gone - 1;
                Check.due(star + "without another", graph.without(other), -3);
                Check.due(star + "glue after it", graph.glue(gone, other, true), 1);
            }
        }
    }

    /** 3 and 4 are glued, 2 is glued to 0: leaving out 2 frees 0, but not 3 and 4. */
    private static void keepsTheGlueOfTheOthers() {
        GlobalMinCut graph = new GlobalMinCut(5);
        graph.weight(0, 1, 20);
        graph.weight(1, 3, 20);
        graph.weight(3, 4, 1);
        graph.weight(2, 4, 40);
        graph.glue(3, 4, true);
        graph.glue(2, 0, true);
        Check.due("without(2)", graph.without(2), 20);
        graph.glue(4, 3, false);
        Check.due("without(2) with 3, 4 taken back", graph.without(2), 1);
    }

    /** The left-out vertex is the only one that could be cut off. */
    private static void isNoneWhenTheRestIsGlued() {
        for (int n = 3; n <= 9; n++) {
            for (int gone = 0; gone < n; gone++) {
                GlobalMinCut graph = Graphs.complete(n, 2);
                int first = gone == 0 ? 1 : 0;
                for (int v = first + 1; v < n; v++) {
                    if (v != gone) {
                        graph.glue(first, v, true);
                    }
                }
                String rest = "of " + n + " vertices, all but " + gone + " glued, ";
                Check.due(rest + "least()", graph.least(), 2 * (n - 1));
                Check.due(rest + "without it", graph.without(gone), -3);
            }
        }
    }

    private static void isNoneWhenOneVertexIsLeft() {
        for (int weight = 0; weight <= 50; weight += 50) {
            GlobalMinCut graph = Graphs.complete(2, weight);
            String of = "of two vertices with weight " + weight + ", ";
            Check.due(of + "without(0)", graph.without(0), -3);
            Check.due(of + "without(1)", graph.without(1), -3);
            graph.glue(0, 1, true);
            Check.due(of + "glued, without(0)", graph.without(0), -3);
            Check.due(of + "glued, without(1)", graph.without(1), -3);
        }
        // With three vertices two are left, and these can be cut.
        GlobalMinCut three = Graphs.complete(3, 7);
        Check.due("of three vertices, without(0)", three.without(0), 7);
        Check.due("of three vertices, without(2)", three.without(2), 7);
    }

    private static void refusesWrongVertices() {
        for (int n = 2; n <= 9; n++) {
            GlobalMinCut graph = Graphs.complete(n, 1);
            for (int v : Graphs.wrongVertices(n)) {
                Check.due("of " + n + " vertices, without(" + v + ")", graph.without(v), -1);
            }
            for (int v = 0; v < n; v++) {
                Check.due("of " + n + " vertices, without(" + v + ")", graph.without(v), n == 2 ? -3 : n - 2);
            }
        }
    }
}
