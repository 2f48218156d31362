/** All promises together: long runs of mixed calls, each answer held against the reference. */
public final class RunsAgainstReferenceTest {
    private static final int RUNS = 160;
    private static final int CALLS = 512;

    // A plain congruence with a fixed start: the same calls in every run of the test.
    private static long state = 20261115L;

    public static void main(String[] args) {
        for (int run = 0; run < RUNS; run++) {
            int vertices = run % 12;
            // Small weights make ties, much glue makes NONE.
            int heaviest = run % 3 == 0 ? 2 : run % 3 == 1 ? 9 : 50;
            int glueInTen = run / 12 % 5 * 2 + 1;
            oneRun(run, vertices, heaviest, glueInTen);
        }
        Check.end();
    }

    private static int upTo(int bound) {
        state = state * 6364136223846793005L + 1442695040888963407L;
        return (int) ((state >>> 33) % bound);
    }

    private static int vertex(int n) {
        return upTo(20) == 0 ? upTo(n + 6) - 3 : upTo(n);
    }

    private static void oneRun(int run, int vertices, int heaviest, int glueInTen) {
        GlobalMinCut graph = new GlobalMinCut(vertices);
        Reference reference = new Reference(vertices);
        int n = Math.max(2, Math.min(9, vertices));
        for (int call = 0; call < CALLS; call++) {
            int u = vertex(n);
            int v = vertex(n);
            String at = "run " + run + ", call " + call + ", new(" + vertices + "): ";
            if (upTo(2) == 0) {
                oneChange(at, graph, reference, u, v, heaviest, glueInTen);
            } else {
                oneQuestion(at, graph, reference, u, v);
            }
        }
    }

    private static void oneChange(String at, GlobalMinCut graph, Reference reference, int u, int v, int heaviest,
            int glueInTen) {
        String pair = "(" + u + ", " + v + ", ";
        switch (upTo(4)) {
            case 0: {
                boolean on = upTo(10) < glueInTen;
                Check.due(at + "glue" + pair + on + ")", graph.glue(u, v, on), reference.glue(u, v, on));
                break;
            }
            case 1: {
                int more = upTo(2 * heaviest + 1) - heaviest;
                Check.due(at + "change" + pair + more + ")", graph.change(u, v, more), reference.change(u, v, more));
                break;
            }
            default: {
                int weight = upTo(15) == 0 ? upTo(60) - 5 : upTo(heaviest + 1);
                Check.due(at + "weight" + pair + weight + ")", graph.weight(u, v, weight),
                    reference.weight(u, v, weight));
                break;
            }
        }
    }

    private static void oneQuestion(String at, GlobalMinCut graph, Reference reference, int u, int v) {
        switch (upTo(6)) {
            case 0:
                Check.due(at + "least()", graph.least(), reference.least());
                break;
            case 1:
                Check.due(at + "smallest()", graph.smallest(), reference.smallest());
                break;
            case 2:
                Check.due(at + "between(" + u + ", " + v + ")", graph.between(u, v), reference.between(u, v));
                break;
            case 3: {
                int mask = upTo(1 << 30) - upTo(1 << 30);
                Check.due(at + "value(" + mask + ")", graph.value(mask), reference.value(mask));
                break;
            }
            case 4:
                Check.due(at + "separated()", graph.separated(), reference.separated());
                break;
            default:
                Check.due(at + "without(" + u + ")", graph.without(u), reference.without(u));
                break;
        }
    }
}
