/** Promise 3: change adds to a weight, keeps it in 0 to 50 and answers the new one. */
public final class Promise03ChangeTest {
    public static void main(String[] args) {
        addsAndAnswersTheNew();
        staysInRange();
        doesNotWrapAround();
        refusesBadVertices();
        Check.end();
    }

    private static void addsAndAnswersTheNew() {
        GlobalMinCut graph = new GlobalMinCut(5);
        Check.due("change(4, 2, 6)", graph.change(4, 2, 6), 6);
        Check.due("change(2, 4, 5)", graph.change(2, 4, 5), 11);
        Check.due("change(4, 2, -3)", graph.change(4, 2, -3), 8);
        Check.due("change(4, 2, 0)", graph.change(4, 2, 0), 8);
        Check.due("value(4)", graph.value(4), 8);
        Check.due("value(16)", graph.value(16), 8);
        Check.due("weight(2, 4, 1)", graph.weight(2, 4, 1), 8);
    }

    private static void staysInRange() {
        for (int old = 0; old <= 50; old++) {
            // A new object each time: nothing is promised after 512 calls.
            GlobalMinCut graph = new GlobalMinCut(2);
            for (int want = -2; want <= 52; want++) {
                graph.weight(0, 1, old);
                int due = want < 0 ? 0 : want > 50 ? 50 : want;
                String call = "from " + old + ", change(0, 1, " + (want - old) + ")";
                Check.due(call, graph.change(0, 1, want - old), due);
                Check.due(call + ", weight after it", graph.weight(1, 0, 0), due);
            }
        }
    }

    private static void doesNotWrapAround() {
        int[] starts = {0, 1, 25, 50};
        for (int start : starts) {
            GlobalMinCut graph = new GlobalMinCut(2);
            graph.weight(0, 1, start);
            Check.due(start + " and the greatest int", graph.change(0, 1, Integer.MAX_VALUE), 50);
            graph.weight(0, 1, start);
            Check.due(start + " and the least int", graph.change(0, 1, Integer.MIN_VALUE), 0);
            Check.due("weight after it", graph.weight(0, 1, 0), 0);
        }
    }

    private static void refusesBadVertices() {
        GlobalMinCut graph = new GlobalMinCut(3);
        graph.weight(0, 1, 11);
        graph.weight(0, 2, 12);
        graph.weight(1, 2, 13);
        int[][] bad = {{-1, 0}, {0, -1}, {3, 0}, {0, 3}, {0, 0}, {1, 1}, {2, 2}, {3, 3}, {1, 8}, {-1, 10},
            {Integer.MIN_VALUE, 0}, {0, Integer.MAX_VALUE}};
        for (int[] pair : bad) {
            Check.due("change(" + pair[0] + ", " + pair[1] + ", 5)", graph.change(pair[0], pair[1], 5), -1);
        }
        Check.due("weight(0, 1, 0)", graph.weight(0, 1, 0), 11);
        Check.due("weight(0, 2, 0)", graph.weight(0, 2, 0), 12);
        Check.due("weight(1, 2, 0)", graph.weight(1, 2, 0), 13);
    }
}
