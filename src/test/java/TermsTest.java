/** The section "Terms": what a cut is, what it is worth, how it is named and when it is allowed. */
public final class TermsTest {
    public static void main(String[] args) {
        Check.test("A CUT is not empty", TermsTest::theEmptySetIsNoCut);
        Check.test("A CUT has not all vertices", TermsTest::theFullSetIsNoCut);
        Check.test("it SEPARATES u and v if exactly one of them is in S", TermsTest::bothOrNoneIsNotSeparated);
        Check.test("its VALUE is the sum of the weights of all pairs that it separates", TermsTest::valueIsASum);
        Check.test("S and its complement are the same cut", TermsTest::complementIsTheSameCut);
        Check.test("a cut is named by that one of the two sets that does not have vertex 0", TermsTest::namesAreEven);
        Check.test("a cut is ALLOWED if it separates no glued pair", TermsTest::allowedSeparatesNoGluedPair);
        Check.test("If so many pairs are glued that no cut is allowed, the questions say NONE.",
            TermsTest::questionsSayNone);
        Check.test("The calls below change nothing.", TermsTest::questionsChangeNothing);
        Check.end();
    }

    /** The empty set would be worth 0 and have the smallest mask of all. */
    private static void theEmptySetIsNoCut() {
        for (int n = 2; n <= 9; n++) {
            String of = "of " + n + " vertices, ";
            GlobalMinCut graph = Graphs.complete(n, 3);
            Check.due(of + "least()", graph.least(), 3 * (n - 1));
            Check.due(of + "smallest()", graph.smallest(), 2);
            GlobalMinCut empty = new GlobalMinCut(n);
            Check.due(of + "no weights, smallest()", empty.smallest(), 2);
        }
    }

    /** The greatest name that a cut can have is that of all vertices but 0; the set of all is no cut. */
    private static void theFullSetIsNoCut() {
        for (int n = 2; n <= 9; n++) {
            String of = "of " + n + " vertices, ";
            GlobalMinCut graph = Graphs.complete(n, 3);
            Graphs.glueChain(graph, 1, n - 1);
            Check.due(of + "all but 0 glued, least()", graph.least(), 3 * (n - 1));
            Check.due(of + "all but 0 glued, smallest()", graph.smallest(), Graphs.allOf(n) - 1);
            graph.glue(0, n - 1, true);
            Check.due(of + "all glued, least()", graph.least(), -3);
            Check.due(of + "all glued, smallest()", graph.smallest(), -3);
        }
    }

    private static void bothOrNoneIsNotSeparated() {
        for (int u = 0; u < 9; u++) {
            for (int v = u + 1; v < 9; v++) {
                GlobalMinCut graph = new GlobalMinCut(9);
                graph.weight(u, v, 7);
                String pair = "only the pair " + u + ", " + v + " has a weight, value of ";
                int rest = Graphs.allOf(9) & ~(1 << u) & ~(1 << v);
                Check.due(pair + "both", graph.value(1 << u | 1 << v), 0);
                Check.due(pair + "none", graph.value(rest), 0);
                Check.due(pair + "the first", graph.value(1 << u), 7);
                Check.due(pair + "the second and the rest", graph.value(1 << v | rest), 7);
            }
        }
    }

    private static void valueIsASum() {
        GlobalMinCut graph = new GlobalMinCut(4);
        graph.weight(0, 1, 1);
        graph.weight(0, 2, 2);
        graph.weight(0, 3, 4);
        graph.weight(1, 2, 8);
        graph.weight(1, 3, 16);
        graph.weight(2, 3, 32);
        int[] due = {0, 7, 25, 30, 42, 45, 51, 52, 52, 51, 45, 42, 30, 25, 7, 0};
        for (int mask = 0; mask < 16; mask++) {
            Check.due("value(" + mask + ")", graph.value(mask), due[mask]);
        }
        GlobalMinCut heaviest = Graphs.complete(9, 50);
        Check.due("the greatest value", heaviest.value(0x1e0), 1000);
    }

    private static void complementIsTheSameCut() {
        for (int n = 2; n <= 6; n++) {
            GlobalMinCut graph = Graphs.marked(n);
            for (int mask = 0; mask <= Graphs.allOf(n); mask++) {
                int complement = Graphs.allOf(n) & ~mask;
                String told = "of " + n + " vertices, value(" + complement + ") as value(" + mask + ")";
                Check.due(told, graph.value(complement), graph.value(mask));
            }
        }
    }

    /** Vertex 0 alone is the least cut by far: its name is the set of all others. */
    private static void namesAreEven() {
        for (int n = 2; n <= 9; n++) {
            GlobalMinCut graph = Graphs.complete(n, 50);
            for (int v = 1; v < n; v++) {
                graph.weight(0, v, 1);
            }
            Check.due("of " + n + " vertices, smallest()", graph.smallest(), Graphs.allOf(n) - 1);
        }
    }

    /** One glued pair that the cheapest cut separates is enough to leave that cut out. */
    private static void allowedSeparatesNoGluedPair() {
        for (int u = 0; u < 4; u++) {
            for (int v = 4; v < 9; v++) {
                GlobalMinCut graph = twoClusters();
                Check.due("least()", graph.least(), 5);
                graph.glue(u, v, true);
                Check.due("least() with " + u + ", " + v + " glued", graph.least(), 60);
                graph.glue(u, v, false);
                Check.due("least() with " + u + ", " + v + " taken back", graph.least(), 5);
            }
        }
        GlobalMinCut inside = twoClusters();
        Graphs.glueChain(inside, 0, 3);
        Graphs.glueChain(inside, 4, 8);
        Check.due("least() with glue inside the clusters alone", inside.least(), 5);
    }

    /** Four vertices and five, held together by 20 on each pair, with 1 between 0 and each of the five. */
    private static GlobalMinCut twoClusters() {
        GlobalMinCut graph = new GlobalMinCut(9);
        for (int u = 0; u < 9; u++) {
            for (int v = u + 1; v < 9; v++) {
                boolean isInside = v < 4 || u >= 4;
                graph.weight(u, v, isInside ? 20 : u == 0 ? 1 : 0);
            }
        }
        return graph;
    }

    private static void questionsSayNone() {
        for (int n = 2; n <= 9; n++) {
            GlobalMinCut graph = Graphs.allGlued(n, 2);
            String of = "of " + n + " vertices, all glued, ";
            Check.due(of + "least()", graph.least(), -3);
            Check.due(of + "smallest()", graph.smallest(), -3);
            for (int v = 1; v < n; v++) {
                Check.due(of + "between(0, " + v + ")", graph.between(0, v), -3);
            }
            Check.due(of + "without(0)", graph.without(0), -3);
            Check.due(of + "without(n - 1)", graph.without(n - 1), -3);
            graph.glue(0, 1, false);
            Check.due(of + "but 0, 1: least()", graph.least(), 2 * (n - 1));
        }
    }

    private static void questionsChangeNothing() {
        for (int n = 2; n <= 9; n++) {
            GlobalMinCut graph = Graphs.marked(n);
            askAll(graph, n);
            Graphs.isAsMade("after all questions", graph, n);
            questionsThatSayNoneChangeNothing(n);
        }
    }

    private static void questionsThatSayNoneChangeNothing(int n) {
        GlobalMinCut graph = Graphs.allGlued(n, 2);
        askAll(graph, n);
        for (int u = 0; u < n; u++) {
            for (int v = u + 1; v < n; v++) {
                String pair = "of " + n + " vertices, after all questions, pair " + u + ", " + v + ": ";
                Check.due(pair + "weight", Graphs.weightOf(graph, u, v), 2);
                Check.due(pair + "glue", Graphs.gluedOf(graph, u, v), v == u + 1 ? 1 : 0);
            }
        }
    }

    private static void askAll(GlobalMinCut graph, int n) {
        graph.least();
        graph.smallest();
        graph.separated();
        for (int u = -1; u <= n; u++) {
            graph.without(u);
            for (int v = -1; v <= n; v++) {
                graph.between(u, v);
            }
        }
        for (int v = 0; v < n; v++) {
            graph.value(1 << v);
            graph.value(~(1 << v));
        }
    }
}
