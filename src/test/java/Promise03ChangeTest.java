/** Promise 3: change adds to a weight, keeps it in 0 to 50 and answers the new one. */
public final class Promise03ChangeTest {
    public static void main(String[] args) {
        Check.test("Adds to the weight of the pair", Promise03ChangeTest::addsToThisPairAlone);
        Check.test("the weight becomes what comes out", Promise03ChangeTest::inRangeIsWhatComesOut);
        Check.test("not below 0", Promise03ChangeTest::notBelowZero);
        Check.test("not above 50", Promise03ChangeTest::notAboveFifty);
        Check.test("not below 0 and not above 50, where the sum wraps around", Promise03ChangeTest::doesNotWrapAround);
        Check.test("u or v not in 0 to n - 1: BAD_VERTEX", Promise03ChangeTest::refusesWrongVertices);
        Check.test("u == v: BAD_VERTEX", Promise03ChangeTest::refusesTheSameVertexTwice);
        Check.test("BAD_VERTEX, nothing changes.", Promise03ChangeTest::wrongVerticesChangeNothing);
        Check.test("Else answers the new weight.", Promise03ChangeTest::answersTheNewWeight);
        Check.end();
    }

    private static void addsToThisPairAlone() {
        for (int u = 0; u < 9; u++) {
            for (int v = u + 1; v < 9; v++) {
                GlobalMinCut graph = Graphs.marked(9);
                int old = Graphs.markedWeight(u, v);
                graph.change(v, u, 9);
                Check.due("weight of " + u + ", " + v, graph.weight(u, v, old), old + 9);
                Graphs.isAsMade("after change(" + v + ", " + u + ", 9)", graph, 9);
            }
        }
    }

    /** From every weight to every other one, the two bounds among them. */
    private static void inRangeIsWhatComesOut() {
        for (int old = 0; old <= 50; old++) {
            GlobalMinCut graph = new GlobalMinCut(2);
            for (int due = 0; due <= 50; due++) {
                becomes(graph, old, due - old, due);
            }
        }
    }

    private static void notBelowZero() {
        for (int old = 0; old <= 50; old++) {
            GlobalMinCut graph = new GlobalMinCut(2);
            becomes(graph, old, -old, 0);
            becomes(graph, old, -old - 1, 0);
            becomes(graph, old, -old - 2, 0);
            becomes(graph, old, -51, 0);
            becomes(graph, old, -1000000, 0);
        }
    }

    private static void notAboveFifty() {
        for (int old = 0; old <= 50; old++) {
            GlobalMinCut graph = new GlobalMinCut(2);
            becomes(graph, old, 50 - old, 50);
            becomes(graph, old, 51 - old, 50);
            becomes(graph, old, 52 - old, 50);
            becomes(graph, old, 51, 50);
            becomes(graph, old, 1000000, 50);
        }
    }

    private static void doesNotWrapAround() {
        for (int old = 0; old <= 50; old++) {
            GlobalMinCut graph = new GlobalMinCut(2);
            for (int near = 0; near < 52; near += 17) {
                becomes(graph, old, Integer.MAX_VALUE - near, 50);
                becomes(graph, old, Integer.MIN_VALUE + near, 0);
            }
        }
    }

    /** The call's answer is of no matter here: the weight itself is read, by a call of another name. */
    private static void becomes(GlobalMinCut graph, int old, int more, int due) {
        graph.weight(0, 1, old);
        graph.change(0, 1, more);
        Check.due("from " + old + ", weight after change(0, 1, " + more + ")", graph.weight(1, 0, 0), due);
    }

    private static void refusesWrongVertices() {
        Refusals.ofWrongVertices("change(u, v, 5)", (graph, u, v) -> graph.change(u, v, 5));
    }

    private static void refusesTheSameVertexTwice() {
        Refusals.ofTheSameVertexTwice("change(u, v, 5)", (graph, u, v) -> graph.change(u, v, 5));
    }

    private static void wrongVerticesChangeNothing() {
        Refusals.changeNothing("change(u, v, 50)", (graph, u, v) -> graph.change(u, v, 50));
        Refusals.changeNothing("change(u, v, -50)", (graph, u, v) -> graph.change(u, v, -50));
    }

    private static void answersTheNewWeight() {
        GlobalMinCut graph = new GlobalMinCut(5);
        Check.due("change(4, 2, 6)", graph.change(4, 2, 6), 6);
        Check.due("change(2, 4, 5)", graph.change(2, 4, 5), 11);
        Check.due("change(4, 2, -3)", graph.change(4, 2, -3), 8);
        Check.due("change(4, 2, 0)", graph.change(4, 2, 0), 8);
        Check.due("change(4, 2, 42)", graph.change(4, 2, 42), 50);
        Check.due("change(4, 2, 1) at 50", graph.change(4, 2, 1), 50);
        Check.due("change(4, 2, max)", graph.change(4, 2, Integer.MAX_VALUE), 50);
        Check.due("change(4, 2, -50)", graph.change(4, 2, -50), 0);
        Check.due("change(4, 2, -1) at 0", graph.change(4, 2, -1), 0);
        Check.due("change(4, 2, min)", graph.change(4, 2, Integer.MIN_VALUE), 0);
        Check.due("change(4, 2, 1) at 0", graph.change(4, 2, 1), 1);
    }
}
