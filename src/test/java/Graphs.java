import java.util.ArrayList;
import java.util.List;

/** Graphs, pairs and readings that several tests share. */
final class Graphs {
    // Numbers that a slip in a bound, a shift or an index would take for a vertex.
    private static final int[] FAR = {-1, -9, -31, -32, 10, 31, 32, 33, Integer.MIN_VALUE, Integer.MAX_VALUE};

    private Graphs() {
    }

    /** Every weight and every glue has its place: a change of any of them shows in isAsMade. */
    static GlobalMinCut marked(int n) {
        GlobalMinCut graph = new GlobalMinCut(n);
        for (int u = 0; u < n; u++) {
            for (int v = u + 1; v < n; v++) {
                graph.weight(u, v, markedWeight(u, v));
                graph.glue(u, v, isMarkedGlued(u, v));
            }
        }
        return graph;
    }

    static void isAsMade(String when, GlobalMinCut graph, int n) {
        for (int u = 0; u < n; u++) {
            for (int v = u + 1; v < n; v++) {
                String pair = when + ": of " + n + " vertices, pair " + u + ", " + v + ": ";
                Check.due(pair + "weight", weightOf(graph, u, v), markedWeight(u, v));
                Check.due(pair + "glue", gluedOf(graph, u, v), isMarkedGlued(u, v) ? 1 : 0);
            }
        }
    }

    /** No two pairs have the same weight. */
    static int markedWeight(int u, int v) {
        return v * (v - 1) / 2 + u + 1;
    }

    static boolean isMarkedGlued(int u, int v) {
        return (u + v) % 3 == 0;
    }

    static GlobalMinCut complete(int n, int weight) {
        GlobalMinCut graph = new GlobalMinCut(n);
        for (int u = 0; u < n; u++) {
            for (int v = u + 1; v < n; v++) {
                graph.weight(u, v, weight);
            }
        }
        return graph;
    }

    /** Holds the vertices from first to last together, each glued to the one ahead of it. */
    static void glueChain(GlobalMinCut graph, int first, int last) {
        for (int v = first + 1; v <= last; v++) {
            graph.glue(v - 1, v, true);
        }
    }

    static GlobalMinCut allGlued(int n, int weight) {
        GlobalMinCut graph = complete(n, weight);
        glueChain(graph, 0, n - 1);
        return graph;
    }

    /** Reads a weight by a call that changes nothing. */
    static int weightOf(GlobalMinCut graph, int u, int v) {
        return graph.change(u, v, 0);
    }

    /** Reads whether a pair is glued, and leaves it as it was. */
    static int gluedOf(GlobalMinCut graph, int u, int v) {
        int was = graph.glue(u, v, true);
        graph.glue(u, v, was == 1);
        return was;
    }

    static int allOf(int n) {
        return (1 << n) - 1;
    }

    /** Numbers that are no vertex of a graph with n of them, those next to the bounds among them. */
    static List<Integer> wrongVertices(int n) {
        List<Integer> wrong = new ArrayList<>();
        for (int v = n; v < 10; v++) {
            wrong.add(v);
        }
        for (int v : FAR) {
            wrong.add(v);
        }
        return wrong;
    }

    /** Pairs in which one number or both are no vertex, and differ. */
    static List<int[]> pairsWithWrongVertex(int n) {
        List<int[]> pairs = new ArrayList<>();
        List<Integer> wrong = wrongVertices(n);
        for (int bad : wrong) {
            for (int v = 0; v < n; v++) {
                pairs.add(new int[] {bad, v});
                pairs.add(new int[] {v, bad});
            }
        }
        // Two wrong numbers whose cells in a table would be those of a right pair.
        for (int row = 1; row < n; row++) {
            pairs.add(new int[] {-1, 9 * row + 10});
            pairs.add(new int[] {n, -9 * row});
        }
        pairs.add(new int[] {-1, n});
        pairs.add(new int[] {n, -1});
        pairs.add(new int[] {Integer.MIN_VALUE, Integer.MAX_VALUE});
        return pairs;
    }

    static List<int[]> pairsOfTheSame(int n) {
        List<int[]> pairs = new ArrayList<>();
        for (int v = 0; v < n; v++) {
            pairs.add(new int[] {v, v});
        }
        for (int bad : wrongVertices(n)) {
            pairs.add(new int[] {bad, bad});
        }
        return pairs;
    }

    static List<int[]> wrongPairs(int n) {
        List<int[]> pairs = pairsWithWrongVertex(n);
        pairs.addAll(pairsOfTheSame(n));
        return pairs;
    }
}
