/** Paths, chains and antichains of a graph of ten vertices without circles. */
public final class PathCoverDag {
    public static final int BAD_VERTEX = -1;
    public static final int BAD_WEIGHT = -2;

    private static final int VERTICES = 10;
    private static final int SETS = 1 << VERTICES;
    private static final int GREATEST_WEIGHT = 9;

    // A set of vertices is held as a mask: bit v for vertex v.
    private final int[] edgesFrom = new int[VERTICES];
    private final int[] aboveOf = new int[VERTICES];
    private final int[] weights = new int[VERTICES];
    private int onSet = SETS - 1;

    // Room to work in: each call that uses these fills them anew first.
    private final boolean[] reachable = new boolean[SETS];
    private final int[] bestFrom = new int[VERTICES];

    public PathCoverDag() {
        for (int v = 0; v < VERTICES; v++) {
            weights[v] = 1;
        }
    }

    public int edge(int a, int b, boolean there) {
        if (a < 0 || b <= a || b >= VERTICES) {
            return BAD_VERTEX;
        }
        int before = has(edgesFrom[a], b) ? 1 : 0;
        edgesFrom[a] = with(edgesFrom[a], b, there);
        findAbove();
        return before;
    }

    public int turn(int v, boolean on) {
        if (!isVertex(v)) {
            return BAD_VERTEX;
        }
        int before = has(onSet, v) ? 1 : 0;
        onSet = with(onSet, v, on);
        return before;
    }

    public int weight(int v, int weight) {
        if (!isVertex(v)) {
            return BAD_VERTEX;
        }
        if (weight < 0 || weight > GREATEST_WEIGHT) {
            return BAD_WEIGHT;
        }
        int before = weights[v];
        weights[v] = weight;
        return before;
    }

    public boolean above(int a, int b) {
        return isVertex(a) && isVertex(b) && has(aboveOf[a], b);
    }

    public int chains() {
        // A chain stays a chain when vertices are left out of it, so chains
        // that share vertices cover no more than chains that share none.
        return leastCover(aboveOf);
    }

    public int width() {
        int widest = smallestWidest();
        return count(widest);
    }

    public int antichain() {
        return smallestWidest();
    }

    public int paths() {
        return leastCover(edgesFrom);
    }

    public int heaviest() {
        int best = 0;
        for (int set = 0; set < SETS; set++) {
            if (isAntichain(set)) {
                int sum = weightOf(set);
                best = sum > best ? sum : best;
            }
        }
        return best;
    }

    public int height() {
        return greatestChain(false);
    }

    public int heaviestChain() {
        return greatestChain(true);
    }

    public int antichains() {
        int found = 0;
        for (int set = 0; set < SETS; set++) {
            if (isAntichain(set)) {
                found++;
            }
        }
        return found;
    }

    public int apart() {
        int pairs = 0;
        for (int a = 0; a < VERTICES; a++) {
            for (int b = a + 1; b < VERTICES; b++) {
                if (has(onSet, a) && has(onSet, b) && !has(aboveOf[a], b)) {
                    pairs++;
                }
            }
        }
        return pairs;
    }

    private static boolean isVertex(int v) {
        return v >= 0 && v < VERTICES;
    }

    private static boolean has(int set, int v) {
        return (set >> v & 1) != 0;
    }

    private static int with(int set, int v, boolean in) {
        int bit = 1 << v;
        return in ? set | bit : set & ~bit;
    }

    private static int count(int set) {
        int found = 0;
        for (int v = 0; v < VERTICES; v++) {
            if (has(set, v)) {
                found++;
            }
        }
        return found;
    }

    private int weightOf(int set) {
        int sum = 0;
        for (int v = 0; v < VERTICES; v++) {
            if (has(set, v)) {
                sum += weights[v];
            }
        }
        return sum;
    }

    // Edges lead to greater numbers, so going downwards every vertex that an
    // edge from a leads to is done before a. Whether a vertex is on plays no
    // part: one may go over vertices that are off.
    private void findAbove() {
        for (int a = VERTICES - 1; a >= 0; a--) {
            int set = edgesFrom[a];
            for (int b = a + 1; b < VERTICES; b++) {
                if (has(edgesFrom[a], b)) {
                    set |= aboveOf[b];
                }
            }
            aboveOf[a] = set;
        }
    }

    private boolean isAntichain(int set) {
        int aboveSome = 0;
        for (int v = 0; v < VERTICES; v++) {
            if (has(set, v)) {
                aboveSome |= aboveOf[v];
            }
        }
        return (set & ~onSet) == 0 && (set & aboveSome) == 0;
    }

    // The sets go upwards and only a greater count replaces the one held, so
    // of the sets with the greatest count the smallest mask is kept.
    private int smallestWidest() {
        int best = 0;
        int bestCount = 0;
        for (int set = 0; set < SETS; set++) {
            if (isAntichain(set)) {
                int size = count(set);
                if (size > bestCount) {
                    best = set;
                    bestCount = size;
                }
            }
        }
        return best;
    }

    // Every vertex alone is a list; each link from a vertex to its next one
    // joins two lists, so the most links give the fewest lists.
    private int leastCover(int[] nexts) {
        return count(onSet) - mostLinks(nexts);
    }

    // A vertex has at most one next and is the next of at most one: a set is
    // reachable if it can be just the vertices that are the next of some one.
    private int mostLinks(int[] nexts) {
        reachable[0] = true;
        for (int set = 1; set < SETS; set++) {
            reachable[set] = false;
        }
        for (int a = 0; a < VERTICES; a++) {
            if (has(onSet, a)) {
                linkFrom(nexts[a] & onSet);
            }
        }
        int most = 0;
        for (int set = 0; set < SETS; set++) {
            if (reachable[set]) {
                int links = count(set);
                most = links > most ? links : most;
            }
        }
        return most;
    }

    // One more vertex takes at most one next out of the choices. The sets go
    // downwards, since a set marked here is greater than the one it came from
    // and so isn't met again for the same vertex.
    private void linkFrom(int choices) {
        for (int set = SETS - 1; set >= 0; set--) {
            if (reachable[set]) {
                int free = choices & ~set;
                for (int b = 0; b < VERTICES; b++) {
                    if (has(free, b)) {
                        reachable[set | 1 << b] = true;
                    }
                }
            }
        }
    }

    // What is above a vertex has a greater number, so going downwards the best
    // chain from each vertex above is known already.
    private int greatestChain(boolean weighed) {
        int best = 0;
        for (int a = VERTICES - 1; a >= 0; a--) {
            if (has(onSet, a)) {
                int rest = bestAmong(aboveOf[a] & onSet);
                bestFrom[a] = rest + (weighed ? weights[a] : 1);
                best = bestFrom[a] > best ? bestFrom[a] : best;
            }
        }
        return best;
    }

    private int bestAmong(int set) {
        int best = 0;
        for (int v = 0; v < VERTICES; v++) {
            if (has(set, v) && bestFrom[v] > best) {
                best = bestFrom[v];
            }
        }
        return best;
    }
}
