/** Graphs that several tests of the project begin with. */
final class Graphs {
    static final int VERTICES = 10;
    static final int ALL = 0b1111111111;

    private Graphs() {
    }

    static PathCoverDag only(int mask) {
        PathCoverDag x = new PathCoverDag();
        turnOnly(x, mask);
        return x;
    }

    static void turnOnly(PathCoverDag x, int mask) {
        for (int v = 0; v < VERTICES; v++) {
            x.turn(v, (mask >> v & 1) != 0);
        }
    }

    static void link(PathCoverDag x, int a, int b) {
        x.edge(a, b, true);
    }

    static void weighAll(PathCoverDag x, int weight) {
        for (int v = 0; v < VERTICES; v++) {
            x.weight(v, weight);
        }
    }

    /** 0 and 1 below 2, and 2 below 3 and 4; the others are off. */
    static PathCoverDag crossing() {
        PathCoverDag x = only(0b11111);
        link(x, 0, 2);
        link(x, 1, 2);
        link(x, 2, 3);
        link(x, 2, 4);
        return x;
    }

    static PathCoverDag line() {
        PathCoverDag x = new PathCoverDag();
        for (int v = 0; v < VERTICES - 1; v++) {
            link(x, v, v + 1);
        }
        return x;
    }

    /** The line from 0 to 9 with only 0, 4 and 9 on. */
    static PathCoverDag gappedLine() {
        PathCoverDag x = line();
        turnOnly(x, 0b1000010001);
        return x;
    }

    static PathCoverDag full() {
        PathCoverDag x = new PathCoverDag();
        for (int a = 0; a < VERTICES; a++) {
            for (int b = a + 1; b < VERTICES; b++) {
                link(x, a, b);
            }
        }
        return x;
    }
}
