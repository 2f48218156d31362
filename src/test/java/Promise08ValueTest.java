/** Promise 8: value answers the value of the cut that a mask gives, glued or not. */
public final class Promise08ValueTest {
    // Of three vertices, with the weights that weighty() sets.
    private static final int[] DUE = {0, 11, 31, 40, 40, 31, 11, 0};

    public static void main(String[] args) {
        Check.test("The value of the cut S that a mask gives", Promise08ValueTest::ofEveryMask);
        Check.test("bits from n on are not looked at", Promise08ValueTest::bitsFromNOnAreNotLookedAt);
        Check.test("a mask without vertices has value 0", Promise08ValueTest::aMaskWithoutVerticesIsZero);
        Check.test("a mask with all vertices has value 0", Promise08ValueTest::aMaskWithAllVerticesIsZero);
        Check.test("glued or not", Promise08ValueTest::gluedOrNot);
        Check.end();
    }

    private static GlobalMinCut weighty() {
        GlobalMinCut graph = new GlobalMinCut(3);
        graph.weight(0, 1, 1);
        graph.weight(0, 2, 10);
        graph.weight(1, 2, 30);
        return graph;
    }

    private static void ofEveryMask() {
        GlobalMinCut graph = weighty();
        for (int mask = 0; mask < 8; mask++) {
            Check.due("value(" + mask + ")", graph.value(mask), DUE[mask]);
        }
        GlobalMinCut heaviest = Graphs.complete(9, 50);
        Check.due("value(0x1e0)", heaviest.value(0x1e0), 1000);
        Check.due("value(0x100)", heaviest.value(0x100), 400);
        Check.due("value(0x1)", heaviest.value(0x1), 400);
    }

    private static void bitsFromNOnAreNotLookedAt() {
        for (int n = 2; n <= 9; n++) {
            GlobalMinCut graph = Graphs.complete(n, 1);
            // Vertex 0 alone, and all but vertex 0.
            for (int bit = n; bit < 32; bit++) {
                hasValue(graph, n, 1 | 1 << bit, n - 1);
                hasValue(graph, n, Graphs.allOf(n) - 1 | 1 << bit, n - 1);
            }
            hasValue(graph, n, 1 | ~Graphs.allOf(n), n - 1);
            hasValue(graph, n, -2, n - 1);
        }
        GlobalMinCut three = weighty();
        for (int mask = 0; mask < 8; mask++) {
            hasValue(three, 3, mask | 8, DUE[mask]);
            hasValue(three, 3, mask | -8, DUE[mask]);
            hasValue(three, 3, mask | Integer.MIN_VALUE, DUE[mask]);
        }
    }

    private static void aMaskWithoutVerticesIsZero() {
        for (int n = 2; n <= 9; n++) {
            GlobalMinCut graph = Graphs.complete(n, 50);
            hasValue(graph, n, 0, 0);
            hasValue(graph, n, 1 << n, 0);
            hasValue(graph, n, Integer.MIN_VALUE, 0);
            hasValue(graph, n, ~Graphs.allOf(n), 0);
        }
    }

    private static void aMaskWithAllVerticesIsZero() {
        for (int n = 2; n <= 9; n++) {
            GlobalMinCut graph = Graphs.complete(n, 50);
            hasValue(graph, n, Graphs.allOf(n), 0);
            hasValue(graph, n, Graphs.allOf(n + 1), 0);
            hasValue(graph, n, Integer.MAX_VALUE, 0);
            hasValue(graph, n, -1, 0);
        }
    }

    private static void gluedOrNot() {
        GlobalMinCut graph = weighty();
        graph.glue(0, 1, true);
        for (int mask = 0; mask < 8; mask++) {
            Check.due("with 0, 1 glued, value(" + mask + ")", graph.value(mask), DUE[mask]);
        }
        graph.glue(1, 2, true);
        for (int mask = 0; mask < 8; mask++) {
            Check.due("with all glued, value(" + mask + ")", graph.value(mask), DUE[mask]);
        }
    }

    private static void hasValue(GlobalMinCut graph, int n, int mask, int due) {
        Check.due("of " + n + " vertices, value(" + mask + ")", graph.value(mask), due);
    }
}
