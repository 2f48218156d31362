/** The section "What it is": how many vertices, which weights, how many calls. */
public final class WhatItIsTest {
    private static final int LAST = 512;
    private static final int SORTS = 6;

    public static void main(String[] args) {
        Check.test("A graph with two to nine VERTICES (0 to n - 1)", WhatItIsTest::verticesAreNumberedFromZero);
        Check.test("a weight of 0 to 50 on every pair of different vertices", WhatItIsTest::everyPairTakesAllWeights);
        Check.test("weight 0 is as good as no edge", WhatItIsTest::weightZeroIsNoEdge);
        Check.test("An object is used for at most 512 calls after it has been made", WhatItIsTest::lastCallsAnswer);
        Check.end();
    }

    private static void verticesAreNumberedFromZero() {
        for (int n = 2; n <= 9; n++) {
            GlobalMinCut graph = new GlobalMinCut(n);
            for (int v = -3; v <= 12; v++) {
                boolean isVertex = v >= 0 && v < n;
                int due = !isVertex ? -1 : n == 2 ? -3 : 0;
                Check.due("of " + n + " vertices, without(" + v + ")", graph.without(v), due);
            }
        }
    }

    private static void everyPairTakesAllWeights() {
        for (int u = 0; u < 9; u++) {
            for (int v = 0; v < 9; v++) {
                if (u != v) {
                    takesAllWeights(u, v);
                }
            }
        }
    }

    private static void takesAllWeights(int u, int v) {
        GlobalMinCut graph = new GlobalMinCut(9);
        int old = 0;
        for (int weight = 0; weight <= 50; weight++) {
            String call = "weight(" + u + ", " + v + ", " + weight + ")";
            Check.due(call, graph.weight(u, v, weight), old);
            Check.due("value of " + u + " alone after " + call, graph.value(1 << u), weight);
            old = weight;
        }
    }

    /** A weight that was set back to 0 leaves no trace, neither in the least value nor in the cuts. */
    private static void weightZeroIsNoEdge() {
        GlobalMinCut graph = new GlobalMinCut(3);
        graph.weight(0, 1, 5);
        graph.weight(1, 2, 0);
        graph.weight(0, 2, 7);
        graph.weight(0, 2, 0);
        Check.due("least()", graph.least(), 0);
        Check.due("smallest()", graph.smallest(), 4);
        Check.due("between(0, 1)", graph.between(0, 1), 5);
        Check.due("between(1, 2)", graph.between(1, 2), 0);
        Check.due("separated()", graph.separated(), 2);
        Check.due("without(0)", graph.without(0), 0);
        Check.due("value(4)", graph.value(4), 0);
    }

    private static void lastCallsAnswer() {
        for (int kind = 0; kind < 9; kind++) {
            lastCallAnswers(kind, 0, 1);
            // Once more with calls of one sort ahead of it, in case some sort is counted apart.
            for (int sort = 0; sort < SORTS; sort++) {
                lastCallAnswers(kind, sort, 0);
            }
        }
    }

    /** 511 calls go ahead; only the answer of the last one is looked at. */
    private static void lastCallAnswers(int kind, int sort, int step) {
        GlobalMinCut graph = Graphs.complete(9, 50);
        graph.weight(7, 8, 1);
        graph.glue(3, 4, true);
        int made = 36 + 2;
        while (made < LAST - 1) {
            fill(graph, sort);
            sort = (sort + step) % SORTS;
            made++;
        }
        int[] due = {1, 2, 1, 351, 128, 351, 351, 15, 301};
        Check.due("call " + LAST + " of kind " + kind, ask(graph, kind), due[kind]);
    }

    private static int ask(GlobalMinCut graph, int kind) {
        switch (kind) {
            case 0:
                return graph.weight(8, 7, 50);
            case 1:
                return graph.change(8, 7, 1);
            case 2:
                return graph.glue(4, 3, false);
            case 3:
                return graph.least();
            case 4:
                return graph.smallest();
            case 5:
                return graph.between(7, 8);
            case 6:
                return graph.value(1 << 8);
            case 7:
                return graph.separated();
            default:
                return graph.without(0);
        }
    }

    /** Calls that leave the graph as it is: changes to what was there, questions and refused calls. */
    private static void fill(GlobalMinCut graph, int sort) {
        switch (sort) {
            case 0:
                graph.weight(7, 8, 1);
                break;
            case 1:
                graph.change(7, 8, 0);
                break;
            case 2:
                graph.glue(3, 4, true);
                break;
            case 3:
                graph.smallest();
                break;
            case 4:
                graph.weight(0, 1, 51);
                break;
            default:
                graph.without(9);
                break;
        }
    }
}
