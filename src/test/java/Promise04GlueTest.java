/** Promise 4: glue glues a pair or takes that back, and answers whether it was glued. */
public final class Promise04GlueTest {
    public static void main(String[] args) {
        Check.test("Glues two vertices", Promise04GlueTest::gluesThisPairAlone);
        Check.test("takes that back", Promise04GlueTest::takesBackThisPairAlone);
        Check.test("takes that back, however often it was glued", Promise04GlueTest::glueIsNotCounted);
        Check.test("u or v not in 0 to n - 1: BAD_VERTEX", Promise04GlueTest::refusesWrongVertices);
        Check.test("u == v: BAD_VERTEX", Promise04GlueTest::refusesTheSameVertexTwice);
        Check.test("BAD_VERTEX, nothing changes.", Promise04GlueTest::wrongVerticesChangeNothing);
        Check.test("answers 1 if the pair was glued before", Promise04GlueTest::answersOneIfGlued);
        Check.test("answers 0 if the pair was not glued before", Promise04GlueTest::answersZeroIfNotGlued);
        Check.test("the pair itself: glue through a third is not asked for", Promise04GlueTest::answersForThePair);
        Check.end();
    }

    private static void gluesThisPairAlone() {
        for (int u = 0; u < 9; u++) {
            for (int v = u + 1; v < 9; v++) {
                GlobalMinCut graph = new GlobalMinCut(9);
                graph.glue(v, u, true);
                String glued = v + ", " + u + " glued: ";
                Check.due(glued + "between(u, v)", graph.between(u, v), -3);
                Check.due(glued + "between(v, u)", graph.between(v, u), -3);
                // All pairs but this one.
                Check.due(glued + "separated()", graph.separated(), 35);
            }
        }
        GlobalMinCut weighty = Graphs.complete(2, 17);
        weighty.glue(0, 1, true);
        Check.due("weight when glued", Graphs.weightOf(weighty, 0, 1), 17);
    }

    private static void takesBackThisPairAlone() {
        for (int u = 0; u < 9; u++) {
            for (int v = u + 1; v < 9; v++) {
                GlobalMinCut graph = Graphs.marked(9);
                graph.glue(v, u, false);
                Check.due("glue of " + u + ", " + v, Graphs.gluedOf(graph, u, v), 0);
                graph.glue(u, v, Graphs.isMarkedGlued(u, v));
                Graphs.isAsMade("after glue(" + v + ", " + u + ", false)", graph, 9);
            }
        }
        GlobalMinCut three = new GlobalMinCut(3);
        three.glue(2, 1, true);
        Check.due("smallest(), glued", three.smallest(), 6);
        three.glue(1, 2, false);
        Check.due("smallest(), taken back", three.smallest(), 2);
        Check.due("between(2, 1), taken back", three.between(2, 1), 0);
    }

    private static void glueIsNotCounted() {
        GlobalMinCut graph = new GlobalMinCut(9);
        graph.glue(8, 3, true);
        graph.glue(8, 3, true);
        graph.glue(3, 8, true);
        Check.due("glue(3, 8, false)", graph.glue(3, 8, false), 1);
        Check.due("between(3, 8)", graph.between(3, 8), 0);
        Check.due("glue(8, 3, false) again", graph.glue(8, 3, false), 0);
        Check.due("glue(3, 8, false) again", graph.glue(3, 8, false), 0);
        Check.due("glue(3, 8, true)", graph.glue(3, 8, true), 0);
        Check.due("between(3, 8), glued", graph.between(3, 8), -3);
    }

    private static void refusesWrongVertices() {
        Refusals.ofWrongVertices("glue(u, v, true)", (graph, u, v) -> graph.glue(u, v, true));
        Refusals.ofWrongVertices("glue(u, v, false)", (graph, u, v) -> graph.glue(u, v, false));
    }

    private static void refusesTheSameVertexTwice() {
        Refusals.ofTheSameVertexTwice("glue(u, v, true)", (graph, u, v) -> graph.glue(u, v, true));
        Refusals.ofTheSameVertexTwice("glue(u, v, false)", (graph, u, v) -> graph.glue(u, v, false));
    }

    private static void wrongVerticesChangeNothing() {
        Refusals.changeNothing("glue(u, v, true)", (graph, u, v) -> graph.glue(u, v, true));
        Refusals.changeNothing("glue(u, v, false)", (graph, u, v) -> graph.glue(u, v, false));
    }

    private static void answersOneIfGlued() {
        for (int n = 2; n <= 9; n++) {
            for (int v = 1; v < n; v++) {
                GlobalMinCut graph = new GlobalMinCut(n);
                String pair = "of " + n + " vertices, 0, " + v + " glued: ";
                graph.glue(0, v, true);
                Check.due(pair + "glue(0, v, true)", graph.glue(0, v, true), 1);
                Check.due(pair + "glue(v, 0, true)", graph.glue(v, 0, true), 1);
                Check.due(pair + "glue(v, 0, false)", graph.glue(v, 0, false), 1);
            }
        }
    }

    private static void answersZeroIfNotGlued() {
        for (int n = 2; n <= 9; n++) {
            for (int v = 1; v < n; v++) {
                GlobalMinCut graph = new GlobalMinCut(n);
                String pair = "of " + n + " vertices, 0, " + v + " not glued: ";
                Check.due(pair + "glue(v, 0, false)", graph.glue(v, 0, false), 0);
                Check.due(pair + "glue(0, v, true)", graph.glue(0, v, true), 0);
                graph.glue(v, 0, false);
                Check.due(pair + "glue(0, v, false) when taken back", graph.glue(0, v, false), 0);
            }
        }
    }

    private static void answersForThePair() {
        GlobalMinCut graph = new GlobalMinCut(4);
        graph.glue(1, 2, true);
        graph.glue(2, 3, true);
        Check.due("between(1, 3)", graph.between(1, 3), -3);
        Check.due("glue(1, 3, false)", graph.glue(1, 3, false), 0);
        Check.due("between(1, 3) still", graph.between(1, 3), -3);
        Check.due("glue(1, 3, true)", graph.glue(1, 3, true), 0);
        Check.due("glue(1, 3, false) when glued", graph.glue(1, 3, false), 1);
        graph.glue(1, 2, false);
        Check.due("between(1, 3) when 1, 2 is taken back", graph.between(1, 3), 0);
        Check.due("between(2, 3) when 1, 2 is taken back", graph.between(2, 3), -3);
    }
}
