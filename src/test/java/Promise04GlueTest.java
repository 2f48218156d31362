/** Promise 4: glue glues a pair or takes that back, and answers whether it was glued. */
public final class Promise04GlueTest {
    public static void main(String[] args) {
        answersWhatWas();
        gluesForTheQuestions();
        aPairGluedThroughAThirdIsNotGlued();
        leavesWeightsAlone();
        refusesBadVertices();
        Check.end();
    }

    private static void answersWhatWas() {
        GlobalMinCut graph = new GlobalMinCut(9);
        Check.due("glue(8, 3, false)", graph.glue(8, 3, false), 0);
        Check.due("glue(8, 3, true)", graph.glue(8, 3, true), 0);
        Check.due("glue(3, 8, true)", graph.glue(3, 8, true), 1);
        Check.due("glue(8, 3, true)", graph.glue(8, 3, true), 1);
        // Glue is not counted: one call takes back what several have done.
        Check.due("glue(3, 8, false)", graph.glue(3, 8, false), 1);
        Check.due("glue(8, 3, false)", graph.glue(8, 3, false), 0);
        Check.due("glue(3, 8, false)", graph.glue(3, 8, false), 0);
    }

    private static void gluesForTheQuestions() {
        GlobalMinCut graph = new GlobalMinCut(3);
        Check.due("between(1, 2)", graph.between(1, 2), 0);
        graph.glue(2, 1, true);
        Check.due("between(1, 2), glued", graph.between(1, 2), -3);
        Check.due("between(2, 1), glued", graph.between(2, 1), -3);
        Check.due("smallest(), glued", graph.smallest(), 6);
        graph.glue(1, 2, false);
        Check.due("between(1, 2), taken back", graph.between(1, 2), 0);
        Check.due("smallest(), taken back", graph.smallest(), 2);
    }

    private static void aPairGluedThroughAThirdIsNotGlued() {
        GlobalMinCut graph = new GlobalMinCut(4);
        graph.glue(1, 2, true);
        graph.glue(2, 3, true);
        Check.due("between(1, 3)", graph.between(1, 3), -3);
        Check.due("glue(1, 3, false)", graph.glue(1, 3, false), 0);
        Check.due("between(1, 3) still", graph.between(1, 3), -3);
        graph.glue(1, 2, false);
        Check.due("between(1, 3) when 1, 2 is taken back", graph.between(1, 3), 0);
        Check.due("between(2, 3) when 1, 2 is taken back", graph.between(2, 3), -3);
    }

    private static void leavesWeightsAlone() {
        GlobalMinCut graph = new GlobalMinCut(2);
        graph.weight(0, 1, 17);
        graph.glue(0, 1, true);
        Check.due("weight when glued", Check.weightOf(graph, 0, 1), 17);
        Check.due("weight(0, 1, 18) when glued", graph.weight(0, 1, 18), 17);
        graph.glue(0, 1, false);
        Check.due("least() when taken back", graph.least(), 18);
    }

    private static void refusesBadVertices() {
        GlobalMinCut graph = new GlobalMinCut(3);
        graph.glue(0, 1, true);
        int[][] bad = {{-1, 0}, {0, -1}, {3, 0}, {0, 3}, {0, 0}, {1, 1}, {2, 2}, {3, 3}, {1, 8}, {-1, 10}, {-1, 11},
            {Integer.MIN_VALUE, 0}, {0, Integer.MAX_VALUE}};
        for (int[] pair : bad) {
            String call = "glue(" + pair[0] + ", " + pair[1] + ", ";
            Check.due(call + "true)", graph.glue(pair[0], pair[1], true), -1);
            Check.due(call + "false)", graph.glue(pair[0], pair[1], false), -1);
            graph.glue(pair[0], pair[1], true);
        }
        Check.due("glue of 0, 1", Check.gluedOf(graph, 0, 1), 1);
        Check.due("glue of 0, 2", Check.gluedOf(graph, 0, 2), 0);
        Check.due("glue of 1, 2", Check.gluedOf(graph, 1, 2), 0);
    }
}
