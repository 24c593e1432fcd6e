/**
 * Every graph there can be over five of the vertices, with every set of them
 * on and the other five vertices off, compared with SlowDag.
 */
public final class SmallGraphsTest {
    // The lowest, the highest, neighbours and gaps are among them.
    private static final int[] PLACES = {0, 3, 4, 7, 9};
    private static final int PAIRS = 10;
    private static final Check CHECK = new Check();

    public static void main(String[] args) {
        for (int graph = 0; graph < 1 << PAIRS; graph++) {
            for (int on = 0; on < 1 << PLACES.length; on++) {
                compare(graph, on);
            }
        }
        CHECK.end();
    }

    private static void compare(int graph, int on) {
        String name = "graph " + graph + ", on " + on;
        PathCoverDag x = new PathCoverDag();
        SlowDag slow = new SlowDag();
        setEdges(graph, x, slow);
        setVertices(graph, on, x, slow);
        Questions.due(CHECK, name, x, slow.answers());
        for (int a : PLACES) {
            for (int b : PLACES) {
                CHECK.due(name + ": above " + a + " " + b, x.above(a, b), slow.above(a, b));
            }
        }
    }

    /** Bit i of the graph's number is for the i-th pair of places. */
    private static void setEdges(int graph, PathCoverDag x, SlowDag slow) {
        int pair = 0;
        for (int i = 0; i < PLACES.length; i++) {
            for (int j = i + 1; j < PLACES.length; j++) {
                boolean there = (graph >> pair & 1) != 0;
                x.edge(PLACES[i], PLACES[j], there);
                slow.edge(PLACES[i], PLACES[j], there);
                pair++;
            }
        }
    }

    // The weights go with the graph's number, so that the heaviest is not always at the same place.
    private static void setVertices(int graph, int on, PathCoverDag x, SlowDag slow) {
        for (int v = 0; v < Graphs.VERTICES; v++) {
            int weight = (graph + 7 * v) % 10;
            x.turn(v, false);
            slow.turn(v, false);
            x.weight(v, weight);
            slow.weight(v, weight);
        }
        for (int i = 0; i < PLACES.length; i++) {
            x.turn(PLACES[i], (on >> i & 1) != 0);
            slow.turn(PLACES[i], (on >> i & 1) != 0);
        }
    }
}
