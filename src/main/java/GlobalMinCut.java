/** A small weighted graph that answers questions about its least cuts. */
public final class GlobalMinCut {
    public static final int BAD_VERTEX = -1;
    public static final int BAD_WEIGHT = -2;
    public static final int NONE = -3;

    private static final int FEWEST_VERTICES = 2;
    private static final int MOST_VERTICES = 9;
    private static final int MOST_WEIGHT = 50;
    private static final int CELLS = 81;

    private final int count;

    // Each pair is held in both of its cells, so that no reader has to order u and v.
    private final int[] weights = new int[CELLS];
    private final boolean[] glued = new boolean[CELLS];

    public GlobalMinCut(int vertices) {
        if (vertices < FEWEST_VERTICES) {
            count = FEWEST_VERTICES;
        } else if (vertices > MOST_VERTICES) {
            count = MOST_VERTICES;
        } else {
            count = vertices;
        }
    }

    public int weight(int u, int v, int weight) {
        if (!isPair(u, v)) {
            return BAD_VERTEX;
        }
        if (weight < 0 || weight > MOST_WEIGHT) {
            return BAD_WEIGHT;
        }
        int old = weights[cell(u, v)];
        setWeight(u, v, weight);
        return old;
    }

    public int change(int u, int v, int more) {
        if (!isPair(u, v)) {
            return BAD_VERTEX;
        }
        int old = weights[cell(u, v)];
        int changed = clampedSum(old, more);
        setWeight(u, v, changed);
        return changed;
    }

    public int glue(int u, int v, boolean on) {
        if (!isPair(u, v)) {
            return BAD_VERTEX;
        }
        int old = glued[cell(u, v)] ? 1 : 0;
        glued[cell(u, v)] = on;
        glued[cell(v, u)] = on;
        return old;
    }

    public int least() {
        int all = allVertices();
        return leastWithin(all);
    }

    public int smallest() {
        int all = allVertices();
        int least = leastWithin(all);
        // A name never has vertex 0, so the names are the even masks.
        for (int name = 2; name < all; name += 2) {
            if (isAllowed(name, all) && cutValue(name, all) == least) {
                return name;
            }
        }
        return NONE;
    }

    public int between(int u, int v) {
        if (!isPair(u, v)) {
            return BAD_VERTEX;
        }
        return leastSeparating(u, v);
    }

    public int value(int mask) {
        int all = allVertices();
        return cutValue(mask, all);
    }

    public int separated() {
        int all = allVertices();
        int least = leastWithin(all);
        if (least == NONE) {
            return 0;
        }
        int pairs = 0;
        for (int u = 0; u < count; u++) {
            for (int v = u + 1; v < count; v++) {
                if (leastSeparating(u, v) == least) {
                    pairs++;
                }
            }
        }
        return pairs;
    }

    public int without(int v) {
        if (!isVertex(v)) {
            return BAD_VERTEX;
        }
        int rest = allVertices() & ~(1 << v);
        return leastWithin(rest);
    }

    private boolean isVertex(int v) {
        return v >= 0 && v < count;
    }

    private boolean isPair(int u, int v) {
        return isVertex(u) && isVertex(v) && u != v;
    }

    private static int cell(int u, int v) {
        return u * MOST_VERTICES + v;
    }

    private void setWeight(int u, int v, int weight) {
        weights[cell(u, v)] = weight;
        weights[cell(v, u)] = weight;
    }

    // Compares before it adds: the sum itself could wrap around.
    private static int clampedSum(int old, int more) {
        if (more > MOST_WEIGHT - old) {
            return MOST_WEIGHT;
        }
        if (more < -old) {
            return 0;
        }
        return old + more;
    }

    private int allVertices() {
        return (1 << count) - 1;
    }

    private static boolean hasBoth(int set, int u, int v) {
        return ((set >> u) & (set >> v) & 1) == 1;
    }

    private static boolean separates(int set, int u, int v) {
        return (((set >> u) ^ (set >> v)) & 1) == 1;
    }

    /** The least value of an allowed cut of the graph that has only the vertices in {@code within}. */
    private int leastWithin(int within) {
        int least = NONE;
        // Meets each cut as both of its sets, which cannot change the least value
        // and spares a rule for naming cuts when vertex 0 is left out.
        for (int set = 1; set < within; set++) {
            if ((set & ~within) == 0 && isAllowed(set, within)) {
                int value = cutValue(set, within);
                least = lesser(least, value);
            }
        }
        return least;
    }

    private int leastSeparating(int u, int v) {
        int all = allVertices();
        int least = NONE;
        for (int name = 2; name < all; name += 2) {
            if (separates(name, u, v) && isAllowed(name, all)) {
                int value = cutValue(name, all);
                least = lesser(least, value);
            }
        }
        return least;
    }

    private static int lesser(int least, int value) {
        return least == NONE || value < least ? value : least;
    }

    private boolean isAllowed(int set, int within) {
        for (int u = 0; u < count; u++) {
            for (int v = u + 1; v < count; v++) {
                if (glued[cell(u, v)] && isCut(set, within, u, v)) {
                    return false;
                }
            }
        }
        return true;
    }

    private int cutValue(int set, int within) {
        int sum = 0;
        for (int u = 0; u < count; u++) {
            for (int v = u + 1; v < count; v++) {
                if (isCut(set, within, u, v)) {
                    sum += weights[cell(u, v)];
                }
            }
        }
        return sum;
    }

    private static boolean isCut(int set, int within, int u, int v) {
        return hasBoth(within, u, v) && separates(set, u, v);
    }
}
