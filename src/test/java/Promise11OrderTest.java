/** Promise 11: BAD_VERTEX is tested before BAD_WEIGHT and before NONE. */
public final class Promise11OrderTest {
    public static void main(String[] args) {
        weightLooksAtTheVerticesFirst();
        betweenLooksAtTheVerticesFirst();
        withoutLooksAtTheVertexFirst();
        Check.end();
    }

    private static void weightLooksAtTheVerticesFirst() {
        GlobalMinCut graph = new GlobalMinCut(3);
        int[] weights = {-1, 51, Integer.MIN_VALUE, Integer.MAX_VALUE};
        for (int weight : weights) {
            Check.due("weight(0, 0, " + weight + ")", graph.weight(0, 0, weight), -1);
            Check.due("weight(-1, 0, " + weight + ")", graph.weight(-1, 0, weight), -1);
            Check.due("weight(0, 3, " + weight + ")", graph.weight(0, 3, weight), -1);
            Check.due("weight(0, 2, " + weight + ")", graph.weight(0, 2, weight), -2);
        }
    }

    private static void betweenLooksAtTheVerticesFirst() {
        GlobalMinCut graph = new GlobalMinCut(3);
        graph.glue(0, 1, true);
        graph.glue(1, 2, true);
        Check.due("between(0, 2)", graph.between(0, 2), -3);
        Check.due("between(1, 1)", graph.between(1, 1), -1);
        Check.due("between(0, 3)", graph.between(0, 3), -1);
        Check.due("between(-1, 2)", graph.between(-1, 2), -1);
    }

    private static void withoutLooksAtTheVertexFirst() {
        GlobalMinCut two = new GlobalMinCut(2);
        Check.due("without(1) of two", two.without(1), -3);
        Check.due("without(2) of two", two.without(2), -1);
        Check.due("without(-1) of two", two.without(-1), -1);
        GlobalMinCut glued = new GlobalMinCut(4);
        glued.glue(0, 1, true);
        glued.glue(1, 2, true);
        glued.glue(2, 3, true);
        glued.glue(3, 0, true);
        Check.due("without(2) of four glued", glued.without(2), -3);
        Check.due("without(4) of four glued", glued.without(4), -1);
        Check.due("without(-1) of four glued", glued.without(-1), -1);
    }
}
