/** Promise 10: without answers the least value as if one vertex were not there. */
public final class Promise10WithoutTest {
    public static void main(String[] args) {
        leavesOutItsPairs();
        leavesOutItsGlue();
        isNoneWhenTheRestIsGlued();
        isNoneWhenOneVertexIsLeft();
        refusesBadVertices();
        Check.end();
    }

    private static void leavesOutItsPairs() {
        GlobalMinCut graph = new GlobalMinCut(4);
        graph.weight(0, 1, 10);
        graph.weight(0, 2, 20);
        graph.weight(0, 3, 30);
        graph.weight(1, 2, 1);
        graph.weight(1, 3, 2);
        graph.weight(2, 3, 4);
        Check.due("without(0)", graph.without(0), 3);
        Check.due("without(1)", graph.without(1), 24);
        Check.due("without(2)", graph.without(2), 12);
        Check.due("without(3)", graph.without(3), 11);
        Check.due("least()", graph.least(), 13);
    }

    /** Two vertices that only the left-out one holds together come apart. */
    private static void leavesOutItsGlue() {
        for (int gone = 0; gone < 3; gone++) {
            GlobalMinCut graph = new GlobalMinCut(3);
            int u = gone == 0 ? 1 : 0;
            int v = gone == 2 ? 1 : 2;
            graph.weight(u, v, 6);
            graph.glue(gone, u, true);
            graph.glue(v, gone, true);
            Check.due("least()", graph.least(), -3);
            Check.due("without(" + gone + ")", graph.without(gone), 6);
            Check.due("without(" + u + ")", graph.without(u), -3);
            Check.due("without(" + v + ")", graph.without(v), -3);
            Check.due("glue after it", graph.glue(gone, u, true), 1);
            Check.due("weight after it", graph.weight(u, v, 6), 6);
        }
    }

    /** The left-out vertex is the only one that could be cut off. */
    private static void isNoneWhenTheRestIsGlued() {
        GlobalMinCut graph = new GlobalMinCut(9);
        for (int v = 1; v < 8; v++) {
            graph.glue(v, v - 1, true);
        }
        graph.weight(0, 8, 12);
        Check.due("least()", graph.least(), 12);
        Check.due("without(8)", graph.without(8), -3);
        Check.due("without(0)", graph.without(0), 0);
        Check.due("without(7)", graph.without(7), 12);
        Check.due("without(3)", graph.without(3), 0);
    }

    private static void isNoneWhenOneVertexIsLeft() {
        GlobalMinCut graph = new GlobalMinCut(2);
        graph.weight(0, 1, 5);
        Check.due("without(0)", graph.without(0), -3);
        Check.due("without(1)", graph.without(1), -3);
    }

    private static void refusesBadVertices() {
        GlobalMinCut graph = new GlobalMinCut(4);
        int[] bad = {-1, 4, 5, 8, 9, 31, 32, 33, -32, Integer.MIN_VALUE, Integer.MAX_VALUE};
        for (int v : bad) {
            Check.due("without(" + v + ")", graph.without(v), -1);
        }
    }
}
