import java.util.ArrayList;
import java.util.List;

/**
 * The document's terms taken literally: it lists all allowed cuts, each an array of sides, and reads
 * every answer off that list. Like the program it goes through all cuts, but shares no code with it.
 */
final class Reference {
    static final int BAD_VERTEX = -1;
    static final int BAD_WEIGHT = -2;
    static final int NONE = -3;

    private final int n;
    private final int[][] weights;
    private final boolean[][] glued;

    Reference(int vertices) {
        n = Math.max(2, Math.min(9, vertices));
        weights = new int[n][n];
        glued = new boolean[n][n];
    }

    private Reference(Reference whole, int gone) {
        n = whole.n - 1;
        weights = new int[n][n];
        glued = new boolean[n][n];
        for (int u = 0; u < n; u++) {
            for (int v = 0; v < n; v++) {
                int wholeU = u < gone ? u : u + 1;
                int wholeV = v < gone ? v : v + 1;
                weights[u][v] = whole.weights[wholeU][wholeV];
                glued[u][v] = whole.glued[wholeU][wholeV];
            }
        }
    }

    private boolean bad(int v) {
        return v < 0 || v >= n;
    }

    private boolean bad(int u, int v) {
        return bad(u) || bad(v) || u == v;
    }

    int weight(int u, int v, int weight) {
        if (bad(u, v)) {
            return BAD_VERTEX;
        }
        if (weight < 0 || weight > 50) {
            return BAD_WEIGHT;
        }
        int old = weights[u][v];
        weights[u][v] = weights[v][u] = weight;
        return old;
    }

    int change(int u, int v, int more) {
        if (bad(u, v)) {
            return BAD_VERTEX;
        }
        long sum = (long) weights[u][v] + more;
        weights[u][v] = weights[v][u] = (int) Math.max(0, Math.min(50, sum));
        return weights[u][v];
    }

    int glue(int u, int v, boolean on) {
        if (bad(u, v)) {
            return BAD_VERTEX;
        }
        int old = glued[u][v] ? 1 : 0;
        glued[u][v] = glued[v][u] = on;
        return old;
    }

    int least() {
        return leastOf(allowedCuts());
    }

    int smallest() {
        int smallest = NONE;
        for (boolean[] cut : leastCuts()) {
            int name = nameOf(cut);
            smallest = smallest == NONE ? name : Math.min(smallest, name);
        }
        return smallest;
    }

    int between(int u, int v) {
        if (bad(u, v)) {
            return BAD_VERTEX;
        }
        List<boolean[]> cuts = allowedCuts();
        cuts.removeIf(cut -> cut[u] == cut[v]);
        return leastOf(cuts);
    }

    int value(int mask) {
        boolean[] side = new boolean[n];
        for (int v = 0; v < n; v++) {
            side[v] = (mask & 1 << v) != 0;
        }
        return valueOf(side);
    }

    int separated() {
        boolean[][] marked = new boolean[n][n];
        int pairs = 0;
        for (boolean[] cut : leastCuts()) {
            for (int u = 0; u < n; u++) {
                for (int v = u + 1; v < n; v++) {
                    if (cut[u] != cut[v] && !marked[u][v]) {
                        marked[u][v] = true;
                        pairs++;
                    }
                }
            }
        }
        return pairs;
    }

    int without(int v) {
        if (bad(v)) {
            return BAD_VERTEX;
        }
        return n == 2 ? NONE : new Reference(this, v).least();
    }

    private List<boolean[]> allowedCuts() {
        List<boolean[]> cuts = new ArrayList<>();
        place(new boolean[n], 1, cuts);
        return cuts;
    }

    private List<boolean[]> leastCuts() {
        List<boolean[]> cuts = allowedCuts();
        int least = leastOf(cuts);
        cuts.removeIf(cut -> valueOf(cut) != least);
        return cuts;
    }

    private int leastOf(List<boolean[]> cuts) {
        return cuts.stream().mapToInt(this::valueOf).min().orElse(NONE);
    }

    /** Vertex 0 is never in a name, so its side stays false. */
    private void place(boolean[] side, int next, List<boolean[]> cuts) {
        if (next == n) {
            if (nameOf(side) != 0 && isAllowed(side)) {
                cuts.add(side.clone());
            }
            return;
        }
        side[next] = false;
        place(side, next + 1, cuts);
        side[next] = true;
        place(side, next + 1, cuts);
    }

    private boolean isAllowed(boolean[] side) {
        for (int u = 0; u < n; u++) {
            for (int v = 0; v < n; v++) {
                if (glued[u][v] && side[u] != side[v]) {
                    return false;
                }
            }
        }
        return true;
    }

    private int nameOf(boolean[] side) {
        int name = 0;
        for (int v = 0; v < n; v++) {
            name += side[v] ? 1 << v : 0;
        }
        return name;
    }

    private int valueOf(boolean[] side) {
        int sum = 0;
        for (int u = 0; u < n; u++) {
            for (int v = 0; v < n; v++) {
                if (side[u] && !side[v]) {
                    sum += weights[u][v];
                }
            }
        }
        return sum;
    }
}
