/**
 * The document's words taken one by one, as something to compare with: every
 * answer comes from looking at all sets of vertices.
 */
final class SlowDag {
    private static final int SETS = 1024;

    private final boolean[][] edge = new boolean[10][10];
    private final boolean[] on = new boolean[10];
    private final int[] weight = new int[10];

    SlowDag() {
        for (int v = 0; v < 10; v++) {
            on[v] = true;
            weight[v] = 1;
        }
    }

    int edge(int a, int b, boolean there) {
        if (!(0 <= a && a < b && b <= 9)) {
            return -1;
        }
        int before = edge[a][b] ? 1 : 0;
        edge[a][b] = there;
        return before;
    }

    int turn(int v, boolean now) {
        if (v < 0 || v > 9) {
            return -1;
        }
        int before = on[v] ? 1 : 0;
        on[v] = now;
        return before;
    }

    int weight(int v, int now) {
        if (v < 0 || v > 9) {
            return -1;
        }
        if (now < 0 || now > 9) {
            return -2;
        }
        int before = weight[v];
        weight[v] = now;
        return before;
    }

    boolean above(int a, int b) {
        if (a < 0 || a > 9 || b < 0 || b > 9) {
            return false;
        }
        for (int c = 0; c < 10; c++) {
            if (edge[a][c] && (c == b || above(c, b))) {
                return true;
            }
        }
        return false;
    }

    /** In the order chains, width, antichain, paths, heaviest, height, heaviestChain, antichains, apart. */
    int[] answers() {
        boolean[][] above = new boolean[10][10];
        for (int a = 0; a < 10; a++) {
            for (int b = 0; b < 10; b++) {
                above[a][b] = above(a, b);
            }
        }
        boolean[] chain = new boolean[SETS];
        boolean[] path = new boolean[SETS];
        int width = 0;
        int antichain = 0;
        int heaviest = 0;
        int height = 0;
        int heaviestChain = 0;
        int antichains = 0;
        int apart = 0;
        for (int set = 0; set < SETS; set++) {
            if (!allOn(set)) {
                continue;
            }
            chain[set] = eachNextFrom(set, above);
            path[set] = eachNextFrom(set, edge);
            int size = Integer.bitCount(set);
            if (chain[set]) {
                height = Math.max(height, size);
                heaviestChain = Math.max(heaviestChain, sum(set));
            }
            if (noneAbove(set, above)) {
                antichains++;
                apart += size == 2 ? 1 : 0;
                heaviest = Math.max(heaviest, sum(set));
                if (size > width || size == width && set < antichain) {
                    width = size;
                    antichain = set;
                }
            }
        }
        return new int[] {fewest(chain, true), width, antichain, fewest(path, false),
            heaviest, height, heaviestChain, antichains, apart};
    }

    private boolean allOn(int set) {
        for (int v = 0; v < 10; v++) {
            if ((set >> v & 1) != 0 && !on[v]) {
                return false;
            }
        }
        return true;
    }

    private int sum(int set) {
        int sum = 0;
        for (int v = 0; v < 10; v++) {
            sum += (set >> v & 1) * weight[v];
        }
        return sum;
    }

    private static boolean eachNextFrom(int set, boolean[][] step) {
        int last = -1;
        for (int v = 0; v < 10; v++) {
            if ((set >> v & 1) != 0) {
                if (last >= 0 && !step[last][v]) {
                    return false;
                }
                last = v;
            }
        }
        return true;
    }

    private static boolean noneAbove(int set, boolean[][] above) {
        for (int a = 0; a < 10; a++) {
            for (int b = 0; b < 10; b++) {
                if ((set >> a & 1) != 0 && (set >> b & 1) != 0 && above[a][b]) {
                    return false;
                }
            }
        }
        return true;
    }

    /** The least number of the lists that cover all vertices that are on. */
    private int fewest(boolean[] isList, boolean mayShare) {
        int[] least = new int[SETS];
        for (int set = 1; set < SETS; set++) {
            if (!allOn(set)) {
                continue;
            }
            int lowest = Integer.lowestOneBit(set);
            least[set] = 10;
            for (int list = 1; list < SETS; list++) {
                boolean fits = mayShare || (list & ~set) == 0;
                if (isList[list] && fits && (list & lowest) != 0) {
                    least[set] = Math.min(least[set], 1 + least[set & ~list]);
                }
            }
        }
        int all = 0;
        for (int v = 0; v < 10; v++) {
            all |= on[v] ? 1 << v : 0;
        }
        return least[all];
    }
}
