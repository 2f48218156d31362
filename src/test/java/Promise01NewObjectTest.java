/** Promise 1: the number of vertices is clamped into 2 to 9; all weights 0, nothing glued. */
public final class Promise01NewObjectTest {
    private static final int[] TOO_FEW = {1, 0, -1, -2, -9, Integer.MIN_VALUE};
    private static final int[] TOO_MANY = {10, 11, 31, 32, 34, 81, Integer.MAX_VALUE};

    public static void main(String[] args) {
        Check.test("vertices is clamped into 2 to 9", Promise01NewObjectTest::inRangeStays);
        Check.test("below 2 becomes 2", Promise01NewObjectTest::belowTwoBecomesTwo);
        Check.test("above 9 becomes 9", Promise01NewObjectTest::aboveNineBecomesNine);
        Check.test("All weights 0", Promise01NewObjectTest::allWeightsAreZero);
        Check.test("nothing glued", Promise01NewObjectTest::nothingIsGlued);
        Check.test("a new object has nothing of the others", Promise01NewObjectTest::objectsAreApart);
        Check.end();
    }

    private static void inRangeStays() {
        for (int n = 2; n <= 9; n++) {
            hasVertices(n, n);
        }
    }

    private static void belowTwoBecomesTwo() {
        for (int asked : TOO_FEW) {
            hasVertices(asked, 2);
            isEmpty(asked, 2);
        }
    }

    private static void aboveNineBecomesNine() {
        for (int asked : TOO_MANY) {
            hasVertices(asked, 9);
            isEmpty(asked, 9);
        }
    }

    private static void hasVertices(int asked, int n) {
        String made = "new(" + asked + "): ";
        GlobalMinCut graph = new GlobalMinCut(asked);
        Check.due(made + "separated()", graph.separated(), n * (n - 1) / 2);
        Check.due(made + "change(0, n - 1, 6)", graph.change(0, n - 1, 6), 6);
        Check.due(made + "change(0, n, 6)", graph.change(0, n, 6), -1);
        Check.due(made + "glue(n - 2, n - 1, false)", graph.glue(n - 2, n - 1, false), 0);
        Check.due(made + "glue(n - 2, n, false)", graph.glue(n - 2, n, false), -1);
        Check.due(made + "between(n - 1, 0)", graph.between(n - 1, 0), 6);
        Check.due(made + "between(n, 0)", graph.between(n, 0), -1);
        Check.due(made + "without(n - 1)", graph.without(n - 1), n == 2 ? -3 : 0);
        Check.due(made + "without(n)", graph.without(n), -1);
        Check.due(made + "value(1 << n - 1)", graph.value(1 << n - 1), 6);
        Check.due(made + "value of all", graph.value(Graphs.allOf(n)), 0);
    }

    private static void isEmpty(int asked, int n) {
        String made = "new(" + asked + "): ";
        GlobalMinCut graph = new GlobalMinCut(asked);
        for (int u = 0; u < n; u++) {
            for (int v = u + 1; v < n; v++) {
                Check.due(made + "weight of " + u + ", " + v, Graphs.weightOf(graph, u, v), 0);
                Check.due(made + "glue of " + u + ", " + v, Graphs.gluedOf(graph, u, v), 0);
            }
        }
    }

    private static void allWeightsAreZero() {
        for (int n = 2; n <= 9; n++) {
            String made = "new(" + n + "): ";
            GlobalMinCut graph = new GlobalMinCut(n);
            Check.due(made + "least()", graph.least(), 0);
            for (int u = 0; u < n; u++) {
                for (int v = u + 1; v < n; v++) {
                    Check.due(made + "weight(" + v + ", " + u + ", 9)", graph.weight(v, u, 9), 0);
                }
            }
        }
    }

    private static void nothingIsGlued() {
        for (int n = 2; n <= 9; n++) {
            String made = "new(" + n + "): ";
            GlobalMinCut graph = new GlobalMinCut(n);
            for (int u = 0; u < n; u++) {
                for (int v = u + 1; v < n; v++) {
                    Check.due(made + "between(" + u + ", " + v + ")", graph.between(u, v), 0);
                    Check.due(made + "glue(" + u + ", " + v + ", false)", graph.glue(u, v, false), 0);
                }
            }
        }
    }

    private static void objectsAreApart() {
        GlobalMinCut one = Graphs.marked(9);
        isEmpty(9, 9);
        GlobalMinCut other = new GlobalMinCut(9);
        other.weight(0, 1, 50);
        other.glue(0, 1, true);
        Graphs.isAsMade("after calls on another object", one, 9);
    }
}
