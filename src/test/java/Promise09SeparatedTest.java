/** Promise 9: separated counts the pairs that some allowed cut with the least value separates. */
public final class Promise09SeparatedTest {
    public static void main(String[] args) {
        withOneLeastCut();
        withSeveralLeastCuts();
        withGlue();
        isZeroWhenAllIsGlued();
        Check.end();
    }

    private static void withOneLeastCut() {
        GlobalMinCut graph = new GlobalMinCut(5);
        graph.weight(0, 1, 9);
        graph.weight(1, 2, 3);
        graph.weight(2, 3, 9);
        graph.weight(3, 4, 9);
        Check.due("separated() of two and three", graph.separated(), 6);
        graph.weight(1, 2, 9);
        graph.weight(3, 4, 3);
        Check.due("separated() of four and one", graph.separated(), 4);
    }

    /** A pair that several least cuts separate counts once. */
    private static void withSeveralLeastCuts() {
        GlobalMinCut graph = new GlobalMinCut(5);
        graph.weight(0, 1, 3);
        graph.weight(1, 2, 9);
        graph.weight(2, 3, 9);
        graph.weight(3, 4, 3);
        Check.due("separated() with two least cuts", graph.separated(), 7);
        graph.weight(1, 2, 3);
        graph.weight(2, 3, 3);
        Check.due("separated() with four least cuts", graph.separated(), 10);
        GlobalMinCut nine = new GlobalMinCut(9);
        Check.due("separated() of nine without weights", nine.separated(), 36);
    }

    private static void withGlue() {
        GlobalMinCut graph = new GlobalMinCut(4);
        graph.glue(0, 3, true);
        Check.due("separated() with 0, 3 glued", graph.separated(), 5);
        graph.glue(3, 1, true);
        Check.due("separated() with 0, 1, 3 glued", graph.separated(), 3);
        graph.weight(0, 2, 50);
        Check.due("separated() when the least value is 50", graph.separated(), 3);
    }

    private static void isZeroWhenAllIsGlued() {
        GlobalMinCut graph = new GlobalMinCut(3);
        graph.glue(0, 1, true);
        graph.glue(1, 2, true);
        Check.due("separated() with all glued", graph.separated(), 0);
        GlobalMinCut two = new GlobalMinCut(2);
        Check.due("separated() of two", two.separated(), 1);
        two.glue(0, 1, true);
        Check.due("separated() of two glued", two.separated(), 0);
    }
}
