/** Promise 1: the number of vertices is clamped into 2 to 9; all weights 0, nothing glued. */
public final class Promise01NewObjectTest {
    public static void main(String[] args) {
        int[] asked = {Integer.MIN_VALUE, -1, 0, 1, 2, 3, 4, 5, 6, 7, 8, 9, 10, 11, 32, Integer.MAX_VALUE};
        int[] made = {2, 2, 2, 2, 2, 3, 4, 5, 6, 7, 8, 9, 9, 9, 9, 9};
        for (int i = 0; i < asked.length; i++) {
            hasVertices(asked[i], made[i]);
            isEmpty(asked[i], made[i]);
        }
        objectsAreApart();
        Check.end();
    }

    private static void hasVertices(int asked, int n) {
        String made = "new(" + asked + "): ";
        GlobalMinCut graph = new GlobalMinCut(asked);
        Check.due(made + "change(0, n - 1, 0)", graph.change(0, n - 1, 0), 0);
        Check.due(made + "change(0, n, 0)", graph.change(0, n, 0), -1);
        Check.due(made + "without(n)", graph.without(n), -1);
        Check.due(made + "separated()", graph.separated(), n * (n - 1) / 2);
        Check.due(made + "without(n - 1)", graph.without(n - 1), n == 2 ? -3 : 0);
    }

    private static void isEmpty(int asked, int n) {
        String made = "new(" + asked + "): ";
        GlobalMinCut graph = new GlobalMinCut(asked);
        Check.due(made + "least()", graph.least(), 0);
        Check.due(made + "smallest()", graph.smallest(), 2);
        for (int u = 0; u < n; u++) {
            for (int v = u + 1; v < n; v++) {
                String pair = "(" + u + ", " + v + ")";
                Check.due(made + "between" + pair, graph.between(u, v), 0);
                Check.due(made + "weight of " + pair, Check.weightOf(graph, u, v), 0);
                Check.due(made + "glue of " + pair, Check.gluedOf(graph, u, v), 0);
            }
        }
    }

    private static void objectsAreApart() {
        GlobalMinCut one = new GlobalMinCut(3);
        GlobalMinCut other = new GlobalMinCut(3);
        one.weight(0, 1, 5);
        one.glue(1, 2, true);
        Check.due("other object's weight", Check.weightOf(other, 0, 1), 0);
        Check.due("other object's glue", Check.gluedOf(other, 1, 2), 0);
    }
}
