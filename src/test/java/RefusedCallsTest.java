import java.util.List;
import java.util.Set;
import java.util.TreeSet;
import java.util.function.Supplier;
import java.util.function.ToIntFunction;

/**
 * Each sentence of the document by which a call is refused: too small, too
 * large, the wrong way round and numbers that would be right ones if they
 * wrapped around. After each refused call everything is as before.
 */
public final class RefusedCallsTest {
    private static final int BAD_VERTEX = PathCoverDag.BAD_VERTEX;
    private static final int BAD_WEIGHT = PathCoverDag.BAD_WEIGHT;
    private static final int[] TOO_SMALL = {-1, -2, -9, -10, -11, Integer.MIN_VALUE + 1, Integer.MIN_VALUE};
    private static final int[] TOO_LARGE = {10, 11, 12, 19, 20, Integer.MAX_VALUE - 1, Integer.MAX_VALUE};
    private static final int[] LOWEST_MIDDLE_HIGHEST = {0, 5, 9};
    private static final int[] WRAPPING = wrapping();
    private static final Check CHECK = new Check();

    // Nothing set, everything set, everything off, and something of each: what
    // a wrongly taken call would set, or take away, is seen in one of them.
    private static final List<Supplier<PathCoverDag>> STATES = List.of(
            PathCoverDag::new, RefusedCallsTest::heavyAndFull, RefusedCallsTest::allOff, RefusedCallsTest::mixed);

    public static void main(String[] args) {
        edgeTooSmall();
        edgeTooLarge();
        edgeWrappingAround();
        edgeToItself();
        edgeToSmallerNumber();
        edgeOfTwoThatAreNoVertices();
        turnTooSmall();
        turnTooLarge();
        turnWrappingAround();
        vertexTooSmallForWeight();
        vertexTooLargeForWeight();
        vertexWrappingAroundForWeight();
        weightTooSmall();
        weightTooLarge();
        weightWrappingAround();
        vertexBeforeWeight();
        aboveTooSmall();
        aboveTooLarge();
        aboveWrappingAround();
        aboveOfTwoThatAreNoVertices();
        manyRefusedCallsInARow();
        CHECK.end();
    }

    // Promise 2: "Not 0 <= a < b <= 9: BAD_VERTEX, nothing changes."

    private static void edgeTooSmall() {
        edgesRefused(TOO_SMALL);
    }

    private static void edgeTooLarge() {
        edgesRefused(TOO_LARGE);
    }

    private static void edgeWrappingAround() {
        edgesRefused(WRAPPING);
    }

    private static void edgeToItself() {
        for (int v = 0; v <= 9; v++) {
            edgeRefused(v, v);
        }
    }

    private static void edgeToSmallerNumber() {
        for (int a = 0; a <= 9; a++) {
            for (int b = 0; b < a; b++) {
                edgeRefused(a, b);
            }
        }
    }

    private static void edgeOfTwoThatAreNoVertices() {
        for (int low : TOO_SMALL) {
            for (int high : TOO_LARGE) {
                edgeRefused(low, high);
                edgeRefused(high, low);
            }
            edgeRefused(low, -1);
        }
        for (int high : TOO_LARGE) {
            edgeRefused(10, high);
        }
        edgeRefused(32, 41);
        edgeRefused(-32, -23);
        edgeRefused(-10, -1);
        edgeRefused(10, 19);
    }

    // Promise 3: "v not in 0 to 9: BAD_VERTEX, nothing changes."

    private static void turnTooSmall() {
        turnsRefused(TOO_SMALL);
    }

    private static void turnTooLarge() {
        turnsRefused(TOO_LARGE);
    }

    private static void turnWrappingAround() {
        turnsRefused(WRAPPING);
    }

    // Promise 4: "v not in 0 to 9: BAD_VERTEX; weight not in 0 to 9: BAD_WEIGHT; nothing changes then."

    private static void vertexTooSmallForWeight() {
        verticesRefusedForWeight(TOO_SMALL);
    }

    private static void vertexTooLargeForWeight() {
        verticesRefusedForWeight(TOO_LARGE);
    }

    private static void vertexWrappingAroundForWeight() {
        verticesRefusedForWeight(WRAPPING);
    }

    private static void weightTooSmall() {
        for (int v = 0; v <= 9; v++) {
            weightsRefused(v, TOO_SMALL);
        }
    }

    private static void weightTooLarge() {
        for (int v = 0; v <= 9; v++) {
            weightsRefused(v, TOO_LARGE);
        }
    }

    private static void weightWrappingAround() {
        for (int v : LOWEST_MIDDLE_HIGHEST) {
            weightsRefused(v, WRAPPING);
        }
    }

    // Promise 15: "weight: BAD_VERTEX is tested before BAD_WEIGHT."

    private static void vertexBeforeWeight() {
        for (int v : new int[] {-1, 10, 32, Integer.MIN_VALUE, Integer.MAX_VALUE}) {
            for (int w : new int[] {-1, 10, 256, Integer.MIN_VALUE, Integer.MAX_VALUE}) {
                refused("weight " + v + " " + w, x -> x.weight(v, w), BAD_VERTEX);
            }
        }
    }

    // Promise 5: "false if one is not in 0 to 9."

    private static void aboveTooSmall() {
        aboveNone(TOO_SMALL);
    }

    private static void aboveTooLarge() {
        aboveNone(TOO_LARGE);
    }

    private static void aboveWrappingAround() {
        aboveNone(WRAPPING);
    }

    private static void aboveOfTwoThatAreNoVertices() {
        for (int low : TOO_SMALL) {
            for (int high : TOO_LARGE) {
                notAbove(low, high);
                notAbove(high, low);
            }
            notAbove(low, low);
        }
        for (int high : TOO_LARGE) {
            notAbove(high, high);
        }
        notAbove(32, 41);
        notAbove(-32, -23);
    }

    // Refused calls are calls: 300 of them, and then 174 that look at everything, are within 512.
    private static void manyRefusedCallsInARow() {
        PathCoverDag x = new PathCoverDag();
        for (int i = 1; i <= 50; i++) {
            CHECK.due("row: edge " + -i + " 5", x.edge(-i, 5, true), BAD_VERTEX);
            CHECK.due("row: edge 5 " + (9 + i), x.edge(5, 9 + i, true), BAD_VERTEX);
            CHECK.due("row: turn " + -i, x.turn(-i, false), BAD_VERTEX);
            CHECK.due("row: turn " + (9 + i), x.turn(9 + i, false), BAD_VERTEX);
            CHECK.due("row: weight 5 " + -i, x.weight(5, -i), BAD_WEIGHT);
            CHECK.due("row: weight " + (9 + i) + " 5", x.weight(9 + i, 5), BAD_VERTEX);
        }
        Everything.same(CHECK, "row of refused calls", x, new PathCoverDag());
    }

    private static void edgesRefused(int[] noVertices) {
        for (int bad : noVertices) {
            for (int good : LOWEST_MIDDLE_HIGHEST) {
                edgeRefused(bad, good);
                edgeRefused(good, bad);
            }
        }
    }

    private static void edgeRefused(int a, int b) {
        refused("add edge " + a + " " + b, x -> x.edge(a, b, true), BAD_VERTEX);
        refused("take edge " + a + " " + b, x -> x.edge(a, b, false), BAD_VERTEX);
    }

    private static void turnsRefused(int[] noVertices) {
        for (int bad : noVertices) {
            refused("turn on " + bad, x -> x.turn(bad, true), BAD_VERTEX);
            refused("turn off " + bad, x -> x.turn(bad, false), BAD_VERTEX);
        }
    }

    private static void verticesRefusedForWeight(int[] noVertices) {
        for (int bad : noVertices) {
            for (int weight : LOWEST_MIDDLE_HIGHEST) {
                refused("weight " + bad + " " + weight, x -> x.weight(bad, weight), BAD_VERTEX);
            }
        }
    }

    private static void weightsRefused(int v, int[] noWeights) {
        for (int bad : noWeights) {
            refused("weight " + v + " " + bad, x -> x.weight(v, bad), BAD_WEIGHT);
        }
    }

    private static void aboveNone(int[] noVertices) {
        for (int bad : noVertices) {
            for (int good : LOWEST_MIDDLE_HIGHEST) {
                notAbove(bad, good);
                notAbove(good, bad);
            }
        }
    }

    private static void notAbove(int a, int b) {
        refused("above " + a + " " + b, x -> x.above(a, b) ? 1 : 0, 0);
    }

    private static void refused(String name, ToIntFunction<PathCoverDag> call, int due) {
        for (int state = 0; state < STATES.size(); state++) {
            String where = "state " + state + ": " + name;
            PathCoverDag x = STATES.get(state).get();
            CHECK.due(where, call.applyAsInt(x), due);
            Everything.same(CHECK, where, x, STATES.get(state).get());
        }
    }

    private static PathCoverDag heavyAndFull() {
        PathCoverDag x = Graphs.full();
        Graphs.weighAll(x, 9);
        return x;
    }

    private static PathCoverDag allOff() {
        PathCoverDag x = Graphs.only(0);
        Graphs.weighAll(x, 0);
        return x;
    }

    private static PathCoverDag mixed() {
        PathCoverDag x = Graphs.crossing();
        Graphs.link(x, 5, 9);
        Graphs.turnOnly(x, 0b1000111011);
        for (int v = 0; v < Graphs.VERTICES; v++) {
            x.weight(v, 9 - v);
        }
        return x;
    }

    /** Numbers that are 0, 5 or 9 again by ten, by a mask, in a shift, as a byte, as a short or without their sign. */
    private static int[] wrapping() {
        Set<Integer> found = new TreeSet<>();
        for (int v : LOWEST_MIDDLE_HIGHEST) {
            for (int step : new int[] {10, 16, 32, 64, 128, 256, 1024, 65536, Integer.MIN_VALUE}) {
                found.add(v + step);
                found.add(v - step);
            }
            found.add(~v);
        }
        return found.stream().mapToInt(Integer::intValue).toArray();
    }
}
