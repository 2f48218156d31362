/**
 * The document's terms taken literally: cuts are arrays of sides, built one vertex after the other.
 * It shares no way of reckoning with the program.
 */
final class Reference {
    static final int BAD_VERTEX = -1;
    static final int BAD_WEIGHT = -2;
    static final int NONE = -3;

    private final int n;
    private final int[][] weights;
    private final boolean[][] glued;

    private int least;
    private int smallest;
    private int[][] leastBetween;

    Reference(int vertices) {
        n = Math.max(2, Math.min(9, vertices));
        weights = new int[n][n];
        glued = new boolean[n][n];
    }

    private Reference(Reference whole, int gone) {
        n = whole.n - 1;
        weights = new int[n][n];
        glued = new boolean[n][n];
        for (int u = 0; u < n; u++) {
            for (int v = 0; v < n; v++) {
                int wholeU = u < gone ? u : u + 1;
                int wholeV = v < gone ? v : v + 1;
                weights[u][v] = whole.weights[wholeU][wholeV];
                glued[u][v] = whole.glued[wholeU][wholeV];
            }
        }
    }

    private boolean bad(int v) {
        return v < 0 || v >= n;
    }

    private boolean bad(int u, int v) {
        return bad(u) || bad(v) || u == v;
    }

    int weight(int u, int v, int weight) {
        if (bad(u, v)) {
            return BAD_VERTEX;
        }
        if (weight < 0 || weight > 50) {
            return BAD_WEIGHT;
        }
        int old = weights[u][v];
        weights[u][v] = weights[v][u] = weight;
        return old;
    }

    int change(int u, int v, int more) {
        if (bad(u, v)) {
            return BAD_VERTEX;
        }
        long sum = (long) weights[u][v] + more;
        weights[u][v] = weights[v][u] = (int) Math.max(0, Math.min(50, sum));
        return weights[u][v];
    }

    int glue(int u, int v, boolean on) {
        if (bad(u, v)) {
            return BAD_VERTEX;
        }
        int old = glued[u][v] ? 1 : 0;
        glued[u][v] = glued[v][u] = on;
        return old;
    }

    int least() {
        lookAtAllCuts();
        return least;
    }

    int smallest() {
        lookAtAllCuts();
        return smallest;
    }

    int between(int u, int v) {
        if (bad(u, v)) {
            return BAD_VERTEX;
        }
        lookAtAllCuts();
        return leastBetween[u][v];
    }

    int value(int mask) {
        boolean[] side = new boolean[n];
        for (int v = 0; v < n; v++) {
            side[v] = (mask & 1 << v) != 0;
        }
        return valueOf(side);
    }

    int separated() {
        lookAtAllCuts();
        int pairs = 0;
        for (int u = 0; u < n; u++) {
            for (int v = u + 1; v < n; v++) {
                if (least != NONE && leastBetween[u][v] == least) {
                    pairs++;
                }
            }
        }
        return pairs;
    }

    int without(int v) {
        if (bad(v)) {
            return BAD_VERTEX;
        }
        return n == 2 ? NONE : new Reference(this, v).least();
    }

    private void lookAtAllCuts() {
        least = NONE;
        smallest = NONE;
        leastBetween = new int[n][n];
        for (int[] row : leastBetween) {
            java.util.Arrays.fill(row, NONE);
        }
        place(new boolean[n], 1);
    }

    /** Vertex 0 is never in a name, so its side stays false. */
    private void place(boolean[] side, int next) {
        if (next == n) {
            lookAt(side);
            return;
        }
        side[next] = false;
        place(side, next + 1);
        side[next] = true;
        place(side, next + 1);
    }

    private void lookAt(boolean[] side) {
        int name = 0;
        for (int u = 0; u < n; u++) {
            name += side[u] ? 1 << u : 0;
            for (int v = 0; v < n; v++) {
                if (glued[u][v] && side[u] != side[v]) {
                    return;
                }
            }
        }
        if (name == 0) {
            return;
        }
        int value = valueOf(side);
        if (least == NONE || value < least || value == least && name < smallest) {
            least = value;
            smallest = name;
        }
        for (int u = 0; u < n; u++) {
            for (int v = 0; v < n; v++) {
                boolean better = leastBetween[u][v] == NONE || value < leastBetween[u][v];
                if (side[u] != side[v] && better) {
                    leastBetween[u][v] = value;
                }
            }
        }
    }

    private int valueOf(boolean[] side) {
        int sum = 0;
        for (int u = 0; u < n; u++) {
            for (int v = 0; v < n; v++) {
                if (side[u] && !side[v]) {
                    sum += weights[u][v];
                }
            }
        }
        return sum;
    }
}
