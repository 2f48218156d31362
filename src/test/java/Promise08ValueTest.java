/** Promise 8: value answers the value of the cut that a mask gives, glued or not. */
public final class Promise08ValueTest {
    public static void main(String[] args) {
        ofEveryMask();
        ofTheHeaviestCut();
        Check.end();
    }

    private static void ofEveryMask() {
        GlobalMinCut graph = new GlobalMinCut(3);
        graph.weight(0, 1, 1);
        graph.weight(0, 2, 10);
        graph.weight(1, 2, 30);
        int[] due = {0, 11, 31, 40, 40, 31, 11, 0};
        for (int mask = 0; mask < 8; mask++) {
            hasValue(graph, mask, due[mask]);
        }
        graph.glue(0, 1, true);
        graph.glue(1, 2, true);
        for (int mask = 0; mask < 8; mask++) {
            hasValue(graph, mask, due[mask]);
        }
    }

    private static void hasValue(GlobalMinCut graph, int mask, int due) {
        int[] beyond = {0, 8, 16, 256, 512, 1 << 30, Integer.MIN_VALUE, -8};
        for (int bits : beyond) {
            Check.due("value(" + (mask | bits) + ")", graph.value(mask | bits), due);
        }
    }

    private static void ofTheHeaviestCut() {
        GlobalMinCut graph = new GlobalMinCut(9);
        for (int u = 0; u < 9; u++) {
            for (int v = u + 1; v < 9; v++) {
                graph.weight(u, v, 50);
            }
        }
        Check.due("value(0x1e0)", graph.value(0x1e0), 1000);
        Check.due("value(0x100)", graph.value(0x100), 400);
        Check.due("value(-1)", graph.value(-1), 0);
        Check.due("value(0x200)", graph.value(0x200), 0);
    }
}
