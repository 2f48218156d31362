/** Promise 2: weight sets the weight of a pair and answers the old one. */
public final class Promise02WeightTest {
    private static final int[] WRONG_WEIGHTS = {-1, 51, -2, -50, 52, 100, 256, Integer.MIN_VALUE, Integer.MAX_VALUE};

    public static void main(String[] args) {
        Check.test("Sets the weight of the pair u, v", Promise02WeightTest::setsThisPairAlone);
        Check.test("(the same as the pair v, u)", Promise02WeightTest::bothOrdersAreOnePair);
        Check.test("u or v not in 0 to n - 1: BAD_VERTEX", Promise02WeightTest::refusesWrongVertices);
        Check.test("u == v: BAD_VERTEX", Promise02WeightTest::refusesTheSameVertexTwice);
        Check.test("weight not in 0 to 50: BAD_WEIGHT", Promise02WeightTest::refusesWrongWeights);
        Check.test("nothing changes then (BAD_VERTEX)", Promise02WeightTest::wrongVerticesChangeNothing);
        Check.test("nothing changes then (BAD_WEIGHT)", Promise02WeightTest::wrongWeightsChangeNothing);
        Check.test("Else answers the old weight.", Promise02WeightTest::answersTheOldWeight);
        Check.end();
    }

    private static void setsThisPairAlone() {
        for (int u = 0; u < 9; u++) {
            for (int v = u + 1; v < 9; v++) {
                GlobalMinCut graph = Graphs.marked(9);
                graph.weight(u, v, 50);
                Check.due("weight of " + u + ", " + v, Graphs.weightOf(graph, u, v), 50);
                graph.weight(u, v, Graphs.markedWeight(u, v));
                Graphs.isAsMade("after weight(" + u + ", " + v + ", ..)", graph, 9);
            }
        }
    }

    private static void bothOrdersAreOnePair() {
        for (int u = 0; u < 9; u++) {
            for (int v = u + 1; v < 9; v++) {
                GlobalMinCut graph = new GlobalMinCut(9);
                String pair = "pair " + u + ", " + v + ": ";
                Check.due(pair + "weight(u, v, 7)", graph.weight(u, v, 7), 0);
                Check.due(pair + "weight(v, u, 9)", graph.weight(v, u, 9), 7);
                Check.due(pair + "weight(u, v, 0)", graph.weight(u, v, 0), 9);
                Check.due(pair + "weight(v, u, 3)", graph.weight(v, u, 3), 0);
                // A weight that were held twice would be counted twice here.
                Check.due(pair + "value of u alone", graph.value(1 << u), 3);
                Check.due(pair + "value of v alone", graph.value(1 << v), 3);
            }
        }
    }

    private static void refusesWrongVertices() {
        Refusals.ofWrongVertices("weight(u, v, 5)", (graph, u, v) -> graph.weight(u, v, 5));
    }

    private static void refusesTheSameVertexTwice() {
        Refusals.ofTheSameVertexTwice("weight(u, v, 5)", (graph, u, v) -> graph.weight(u, v, 5));
    }

    private static void wrongVerticesChangeNothing() {
        Refusals.changeNothing("weight(u, v, 50)", (graph, u, v) -> graph.weight(u, v, 50));
    }

    private static void refusesWrongWeights() {
        GlobalMinCut graph = new GlobalMinCut(2);
        for (int weight : WRONG_WEIGHTS) {
            Check.due("weight(0, 1, " + weight + ")", graph.weight(0, 1, weight), -2);
        }
        Check.due("weight(0, 1, 50)", graph.weight(0, 1, 50), 0);
        Check.due("weight(0, 1, 0)", graph.weight(0, 1, 0), 50);
        Check.due("weight(0, 1, 1)", graph.weight(0, 1, 1), 0);
        Check.due("weight(0, 1, 49)", graph.weight(0, 1, 49), 1);
    }

    private static void wrongWeightsChangeNothing() {
        for (int n = 2; n <= 9; n++) {
            GlobalMinCut graph = Graphs.marked(n);
            for (int weight : WRONG_WEIGHTS) {
                for (int v = 1; v < n; v++) {
                    graph.weight(0, v, weight);
                    graph.weight(v, v - 1, weight);
                }
            }
            Graphs.isAsMade("after wrong weights", graph, n);
        }
    }

    private static void answersTheOldWeight() {
        GlobalMinCut graph = new GlobalMinCut(4);
        Check.due("weight(1, 3, 0) on a new object", graph.weight(1, 3, 0), 0);
        for (int old = 0; old <= 50; old++) {
            graph.weight(1, 3, old);
            Check.due("weight(1, 3, " + old + ") again", graph.weight(1, 3, old), old);
            Check.due("weight(1, 3, " + (50 - old) + ")", graph.weight(1, 3, 50 - old), old);
        }
        graph.weight(1, 3, 8);
        graph.change(1, 3, 5);
        Check.due("weight(1, 3, 0) after a change", graph.weight(1, 3, 0), 13);
        graph.weight(1, 3, 8);
        graph.weight(1, 3, 51);
        Check.due("weight(1, 3, 0) after a wrong weight", graph.weight(1, 3, 0), 8);
    }
}
