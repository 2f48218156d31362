/** Counts the answers that are not as due, and ends the test with exit code 1 if there was one. */
final class Check {
    private static int wrong = 0;

    private Check() {
    }

    static void due(String call, long got, long want) {
        if (got != want) {
            wrong++;
            System.out.println(call + " answered " + got + ", due is " + want);
        }
    }

    static void end() {
        if (wrong != 0) {
            System.out.println(wrong + " answers are not as due");
            System.exit(1);
        }
    }

    /** Reads a weight by a call that changes nothing. */
    static int weightOf(GlobalMinCut graph, int u, int v) {
        return graph.change(u, v, 0);
    }

    /** Reads whether a pair is glued, and leaves it as it was. */
    static int gluedOf(GlobalMinCut graph, int u, int v) {
        int was = graph.glue(u, v, true);
        graph.glue(u, v, was == 1);
        return was;
    }
}
