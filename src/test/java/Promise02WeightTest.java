/** Promise 2: weight sets the weight of a pair and answers the old one. */
public final class Promise02WeightTest {
    public static void main(String[] args) {
        setsAndAnswersTheOld();
        everyPairHasItsOwnWeight();
        refusesBadVertices();
        refusesBadWeights();
        Check.end();
    }

    private static void setsAndAnswersTheOld() {
        GlobalMinCut graph = new GlobalMinCut(4);
        Check.due("weight(1, 3, 7)", graph.weight(1, 3, 7), 0);
        Check.due("weight(1, 3, 9)", graph.weight(1, 3, 9), 7);
        Check.due("weight(3, 1, 50)", graph.weight(3, 1, 50), 9);
        Check.due("weight(1, 3, 0)", graph.weight(1, 3, 0), 50);
        Check.due("weight(3, 1, 1)", graph.weight(3, 1, 1), 0);
        Check.due("value(2)", graph.value(2), 1);
        Check.due("value(8)", graph.value(8), 1);
    }

    private static void everyPairHasItsOwnWeight() {
        GlobalMinCut graph = new GlobalMinCut(9);
        int next = 1;
        for (int u = 0; u < 9; u++) {
            for (int v = u + 1; v < 9; v++) {
                Check.due("weight(" + v + ", " + u + ", " + next + ")", graph.weight(v, u, next), 0);
                next++;
            }
        }
        next = 1;
        for (int u = 0; u < 9; u++) {
            for (int v = u + 1; v < 9; v++) {
                Check.due("weight of " + u + ", " + v, graph.weight(u, v, 0), next);
                next++;
            }
        }
    }

    private static void refusesBadVertices() {
        GlobalMinCut graph = new GlobalMinCut(3);
        graph.weight(0, 1, 11);
        graph.weight(0, 2, 12);
        graph.weight(1, 2, 13);
        int[][] bad = {{-1, 0}, {0, -1}, {3, 0}, {0, 3}, {0, 0}, {1, 1}, {2, 2}, {3, 3}, {-1, -1}, {1, 8}, {8, 1},
            {0, 9}, {-1, 10}, {Integer.MIN_VALUE, 0}, {0, Integer.MAX_VALUE}, {Integer.MAX_VALUE, Integer.MIN_VALUE}};
        for (int[] pair : bad) {
            Check.due("weight(" + pair[0] + ", " + pair[1] + ", 5)", graph.weight(pair[0], pair[1], 5), -1);
        }
        Check.due("weight(0, 1, 0)", graph.weight(0, 1, 0), 11);
        Check.due("weight(0, 2, 0)", graph.weight(0, 2, 0), 12);
        Check.due("weight(1, 2, 0)", graph.weight(1, 2, 0), 13);
    }

    private static void refusesBadWeights() {
        GlobalMinCut graph = new GlobalMinCut(2);
        graph.weight(0, 1, 20);
        int[] bad = {-1, 51, -2, 52, 100, Integer.MIN_VALUE, Integer.MAX_VALUE};
        for (int weight : bad) {
            Check.due("weight(0, 1, " + weight + ")", graph.weight(0, 1, weight), -2);
            Check.due("weight after it", Check.weightOf(graph, 0, 1), 20);
        }
    }
}
