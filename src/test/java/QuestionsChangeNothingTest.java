/** The document's terms: least, smallest, between, value, separated and without change nothing. */
public final class QuestionsChangeNothingTest {
    private static final int N = 5;

    public static void main(String[] args) {
        GlobalMinCut graph = new GlobalMinCut(N);
        for (int u = 0; u < N; u++) {
            for (int v = u + 1; v < N; v++) {
                graph.weight(u, v, 10 * u + v);
                graph.glue(u, v, isGlued(u, v));
            }
        }
        askAll(graph);
        for (int u = 0; u < N; u++) {
            for (int v = u + 1; v < N; v++) {
                String pair = u + ", " + v;
                Check.due("weight of " + pair, Check.weightOf(graph, u, v), 10 * u + v);
                Check.due("glue of " + pair, Check.gluedOf(graph, u, v), isGlued(u, v) ? 1 : 0);
            }
        }
        Check.due("change(0, N, 0)", graph.change(0, N, 0), -1);
        Check.end();
    }

    private static boolean isGlued(int u, int v) {
        return u == 1 && v == 3 || u == 0 && v == 4;
    }

    private static void askAll(GlobalMinCut graph) {
        graph.least();
        graph.smallest();
        graph.separated();
        for (int u = -1; u <= N; u++) {
            graph.without(u);
            for (int v = -1; v <= N; v++) {
                graph.between(u, v);
            }
        }
        for (int mask = -1; mask <= 1 << N; mask++) {
            graph.value(mask);
        }
    }
}
