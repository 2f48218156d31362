/** Promise 6: smallest answers the smallest name of the allowed cuts with the least value. */
public final class Promise06SmallestTest {
    public static void main(String[] args) {
        namesNeverHaveVertexZero();
        theSmallestMaskWinsATie();
        theValueGoesBeforeTheMask();
        onlyAllowedCutsCount();
        isNoneWhenAllIsGlued();
        Check.end();
    }

    /** The least cut has vertex 0 alone on one side: its name is the other side. */
    private static void namesNeverHaveVertexZero() {
        for (int n = 3; n <= 9; n++) {
            GlobalMinCut graph = new GlobalMinCut(n);
            for (int v = 2; v < n; v++) {
                graph.weight(v - 1, v, 9);
            }
            graph.weight(0, n - 1, 1);
            Check.due("smallest() with " + n + " vertices", graph.smallest(), (1 << n) - 2);
        }
    }

    private static void theSmallestMaskWinsATie() {
        GlobalMinCut graph = new GlobalMinCut(4);
        graph.weight(0, 1, 2);
        graph.weight(1, 2, 2);
        graph.weight(2, 3, 2);
        Check.due("smallest() of a path", graph.smallest(), 8);
        graph.weight(3, 0, 2);
        Check.due("smallest() of a ring", graph.smallest(), 2);
        graph.weight(0, 1, 3);
        Check.due("smallest() of a ring with a heavy pair", graph.smallest(), 4);
    }

    private static void theValueGoesBeforeTheMask() {
        GlobalMinCut graph = new GlobalMinCut(4);
        graph.weight(0, 1, 6);
        graph.weight(0, 2, 5);
        graph.weight(0, 3, 4);
        Check.due("smallest() of a star", graph.smallest(), 8);
        graph.weight(0, 3, 5);
        Check.due("smallest() of a star with a tie", graph.smallest(), 4);
    }

    private static void onlyAllowedCutsCount() {
        GlobalMinCut graph = new GlobalMinCut(4);
        graph.weight(0, 1, 1);
        graph.weight(0, 2, 2);
        graph.weight(0, 3, 4);
        Check.due("smallest()", graph.smallest(), 2);
        graph.glue(1, 2, true);
        Check.due("smallest() with 1, 2 glued", graph.smallest(), 6);
        graph.glue(0, 2, true);
        Check.due("smallest() with 0, 1, 2 glued", graph.smallest(), 8);
    }

    private static void isNoneWhenAllIsGlued() {
        GlobalMinCut graph = new GlobalMinCut(3);
        graph.glue(0, 1, true);
        Check.due("smallest() with 0, 1 glued", graph.smallest(), 4);
        graph.glue(0, 2, true);
        Check.due("smallest() with all glued", graph.smallest(), -3);
        GlobalMinCut two = new GlobalMinCut(2);
        Check.due("smallest() of two", two.smallest(), 2);
        two.glue(0, 1, true);
        Check.due("smallest() of two glued", two.smallest(), -3);
    }
}
