/** One method for each promise of the document, with answers worked out by hand. */
public final class PromisesTest {
    // 33, 41 and -23 are 1, 9 and 9 again where a shift takes them by their last five bits.
    private static final int[] NO_VERTEX = {-1, 10, 11, 33, 41, -23, Integer.MIN_VALUE, Integer.MAX_VALUE};
    private static final int[] NO_WEIGHT = {-1, 10, -9, 100, Integer.MIN_VALUE, Integer.MAX_VALUE};
    private static final Check CHECK = new Check();

    public static void main(String[] args) {
        promise1NewObject();
        promise2Edge();
        promise2WrongEdges();
        promise3Turn();
        promise4Weight();
        promise5Above();
        promise6Chains();
        promise7Width();
        promise8Antichain();
        promise9Paths();
        promise10Heaviest();
        promise11Height();
        promise12HeaviestChain();
        promise13Antichains();
        promise14Apart();
        promise15OrderAndLimits();
        allVerticesOff();
        fullGraph();
        questionsChangeNothing();
        objectsAreSeparate();
        CHECK.end();
    }

    private static void promise1NewObject() {
        CHECK.due("BAD_VERTEX", PathCoverDag.BAD_VERTEX, -1);
        CHECK.due("BAD_WEIGHT", PathCoverDag.BAD_WEIGHT, -2);
        answersAsNew("new", new PathCoverDag());
        PathCoverDag x = new PathCoverDag();
        for (int a = 0; a <= 9; a++) {
            CHECK.due("new turn " + a, x.turn(a, true), 1);
            CHECK.due("new weight " + a, x.weight(a, 1), 1);
            for (int b = a + 1; b <= 9; b++) {
                CHECK.due("new edge " + a + " " + b, x.edge(a, b, false), 0);
                CHECK.due("new above " + a + " " + b, x.above(a, b), false);
            }
        }
        answersAsNew("new, nothing changed", x);
    }

    private static void promise2Edge() {
        PathCoverDag x = new PathCoverDag();
        for (int[] e : new int[][] {{0, 1}, {0, 9}, {8, 9}, {3, 7}}) {
            String name = "edge " + e[0] + " " + e[1];
            CHECK.due(name + " take none", x.edge(e[0], e[1], false), 0);
            CHECK.due(name + " add", x.edge(e[0], e[1], true), 0);
            CHECK.due(name + " add again", x.edge(e[0], e[1], true), 1);
            CHECK.due(name + " is above", x.above(e[0], e[1]), true);
            CHECK.due(name + " take", x.edge(e[0], e[1], false), 1);
            CHECK.due(name + " is not above", x.above(e[0], e[1]), false);
            CHECK.due(name + " take again", x.edge(e[0], e[1], false), 0);
        }
        answersAsNew("edges taken away", x);

        // Being above without an edge is no edge.
        Graphs.link(x, 0, 1);
        Graphs.link(x, 1, 2);
        CHECK.due("edge 0 2 not there", x.edge(0, 2, false), 0);
        CHECK.due("0 1 still there", x.edge(0, 1, true), 1);
        CHECK.due("1 2 still there", x.edge(1, 2, true), 1);

        // Edges at vertices that are off are kept and can be changed.
        x.turn(1, false);
        CHECK.due("off: edge 1 2", x.edge(1, 2, true), 1);
        CHECK.due("off: edge 1 3", x.edge(1, 3, true), 0);
        CHECK.due("off: edge 0 1 take", x.edge(0, 1, false), 1);
        x.turn(1, true);
        CHECK.due("on again: edge 1 3", x.edge(1, 3, true), 1);
        CHECK.due("on again: edge 0 1", x.edge(0, 1, false), 0);
    }

    private static void promise2WrongEdges() {
        PathCoverDag none = new PathCoverDag();
        PathCoverDag full = Graphs.full();
        for (int bad : NO_VERTEX) {
            for (int good : new int[] {0, 5, 9}) {
                wrongEdge(none, bad, good, true);
                wrongEdge(none, good, bad, true);
                wrongEdge(full, bad, good, false);
                wrongEdge(full, good, bad, false);
            }
            wrongEdge(none, -1, bad, true);
            wrongEdge(full, -1, bad, false);
        }
        for (int a = 0; a <= 9; a++) {
            for (int b = 0; b <= a; b++) {
                wrongEdge(none, a, b, true);
                wrongEdge(full, a, b, false);
            }
        }
        answersAsNew("after wrong edges", none);
        answersAsFull("after wrong edges", full);
    }

    private static void wrongEdge(PathCoverDag x, int a, int b, boolean there) {
        CHECK.due("edge " + a + " " + b + " " + there, x.edge(a, b, there), PathCoverDag.BAD_VERTEX);
    }

    private static void promise3Turn() {
        PathCoverDag x = new PathCoverDag();
        for (int v = 0; v <= 9; v++) {
            CHECK.due("turn on, was on " + v, x.turn(v, true), 1);
            CHECK.due("turn off " + v, x.turn(v, false), 1);
            CHECK.due("turn off again " + v, x.turn(v, false), 0);
            CHECK.due("without " + v, x.antichain(), 1023 - (1 << v));
            CHECK.due("turn on " + v, x.turn(v, true), 0);
            CHECK.due("turn on again " + v, x.turn(v, true), 1);
        }
        for (int bad : NO_VERTEX) {
            CHECK.due("turn off " + bad, x.turn(bad, false), PathCoverDag.BAD_VERTEX);
            CHECK.due("turn on " + bad, x.turn(bad, true), PathCoverDag.BAD_VERTEX);
            CHECK.due("turn off " + bad + " again", x.turn(bad, false), PathCoverDag.BAD_VERTEX);
        }
        answersAsNew("after wrong turns", x);
        PathCoverDag off = Graphs.only(0);
        for (int bad : NO_VERTEX) {
            CHECK.due("all off, turn on " + bad, off.turn(bad, true), PathCoverDag.BAD_VERTEX);
        }
        CHECK.due("all off after wrong turns", off.antichains(), 1);
    }

    private static void promise4Weight() {
        PathCoverDag x = new PathCoverDag();
        for (int v = 0; v <= 9; v++) {
            CHECK.due("weight 0 of " + v, x.weight(v, 0), 1);
            CHECK.due("weight 9 of " + v, x.weight(v, 9), 0);
            CHECK.due("weight v of " + v, x.weight(v, v), 9);
        }
        CHECK.due("sum of weights", x.heaviest(), 45);
        CHECK.due("greatest weight", x.heaviestChain(), 9);
        for (int v = 0; v <= 9; v++) {
            for (int bad : NO_WEIGHT) {
                CHECK.due("weight " + bad + " of " + v, x.weight(v, bad), PathCoverDag.BAD_WEIGHT);
            }
        }
        for (int bad : NO_VERTEX) {
            CHECK.due("weight 0 of " + bad, x.weight(bad, 0), PathCoverDag.BAD_VERTEX);
            CHECK.due("weight 9 of " + bad, x.weight(bad, 9), PathCoverDag.BAD_VERTEX);
        }
        for (int v = 0; v <= 9; v++) {
            CHECK.due("weight unchanged of " + v, x.weight(v, v), v);
        }
        x.turn(4, false);
        CHECK.due("weight of a vertex that is off", x.weight(4, 7), 4);
        CHECK.due("weight of a vertex that is off, again", x.weight(4, 8), 7);
        x.turn(4, true);
        CHECK.due("weight of a vertex that was off", x.weight(4, 4), 8);
    }

    private static void promise5Above() {
        PathCoverDag x = new PathCoverDag();
        Graphs.link(x, 0, 1);
        Graphs.link(x, 1, 2);
        Graphs.link(x, 2, 9);
        CHECK.due("above 0 1", x.above(0, 1), true);
        CHECK.due("above 0 2", x.above(0, 2), true);
        CHECK.due("above 0 9", x.above(0, 9), true);
        CHECK.due("above 9 0", x.above(9, 0), false);
        CHECK.due("above 1 0", x.above(1, 0), false);
        CHECK.due("above 0 3", x.above(0, 3), false);
        for (int v = 0; v <= 9; v++) {
            CHECK.due("above itself " + v, x.above(v, v), false);
        }
        for (int bad : NO_VERTEX) {
            for (int v = 0; v <= 9; v++) {
                CHECK.due("above " + bad + " " + v, x.above(bad, v), false);
                CHECK.due("above " + v + " " + bad, x.above(v, bad), false);
            }
            CHECK.due("above " + bad + " " + bad, x.above(bad, bad), false);
        }
        PathCoverDag twoWays = new PathCoverDag();
        Graphs.link(twoWays, 0, 1);
        Graphs.link(twoWays, 1, 5);
        Graphs.link(twoWays, 0, 3);
        Graphs.link(twoWays, 3, 5);
        twoWays.edge(1, 5, false);
        CHECK.due("above by the second way", twoWays.above(0, 5), true);
        twoWays.edge(0, 3, false);
        CHECK.due("above by no way", twoWays.above(0, 5), false);

        PathCoverDag late = Graphs.only(0);
        Graphs.link(late, 1, 2);
        Graphs.link(late, 0, 1);
        CHECK.due("above by edges added while all are off", late.above(0, 2), true);

        // Added from the top down and from the bottom up, each is above all before.
        PathCoverDag down = new PathCoverDag();
        for (int v = 8; v >= 0; v--) {
            Graphs.link(down, v, v + 1);
        }
        PathCoverDag up = Graphs.line();
        for (int a = 0; a <= 9; a++) {
            for (int b = 0; b <= 9; b++) {
                CHECK.due("line down above " + a + " " + b, down.above(a, b), a < b);
                CHECK.due("line up above " + a + " " + b, up.above(a, b), a < b);
            }
        }
    }

    private static void promise6Chains() {
        // Two chains that share vertex 2 cover the crossing.
        PathCoverDag x = Graphs.crossing();
        CHECK.due("crossing chains", x.chains(), 2);
        x.turn(2, false);
        CHECK.due("crossing without its middle", x.chains(), 2);
        x.turn(5, true);
        CHECK.due("crossing and one alone", x.chains(), 3);
        x.turn(0, false);
        CHECK.due("1 below 3 and 4, 5 alone", x.chains(), 3);
        CHECK.due("line", Graphs.line().chains(), 1);
        CHECK.due("line with gaps", Graphs.gappedLine().chains(), 1);
        // Taking for 0 the first vertex above it would leave 1 without one.
        PathCoverDag swap = Graphs.only(0b1111);
        Graphs.link(swap, 0, 2);
        Graphs.link(swap, 0, 3);
        Graphs.link(swap, 1, 2);
        CHECK.due("0 has to leave 2 to 1", swap.chains(), 2);
    }

    private static void promise7Width() {
        PathCoverDag x = Graphs.crossing();
        CHECK.due("crossing", x.width(), 2);
        x.turn(2, false);
        CHECK.due("crossing without its middle", x.width(), 2);
        x.turn(0, false);
        x.turn(4, false);
        CHECK.due("1 below 3", x.width(), 1);
        CHECK.due("line", Graphs.line().width(), 1);
        CHECK.due("line with gaps", Graphs.gappedLine().width(), 1);
        PathCoverDag star = new PathCoverDag();
        for (int v = 1; v <= 9; v++) {
            Graphs.link(star, 0, v);
        }
        CHECK.due("star", star.width(), 9);
    }

    private static void promise8Antichain() {
        PathCoverDag x = Graphs.crossing();
        CHECK.due("smaller of {0, 1} and {3, 4}", x.antichain(), 0b00011);
        x.turn(0, false);
        CHECK.due("only {3, 4}", x.antichain(), 0b11000);
        x.turn(5, true);
        CHECK.due("more before smaller", x.antichain(), 0b111000);
        CHECK.due("line", Graphs.line().antichain(), 1);
        PathCoverDag gapped = Graphs.gappedLine();
        gapped.turn(0, false);
        CHECK.due("line with gaps", gapped.antichain(), 1 << 4);
        PathCoverDag star = new PathCoverDag();
        for (int v = 1; v <= 9; v++) {
            Graphs.link(star, 0, v);
        }
        CHECK.due("star", star.antichain(), 1022);
        // Weights play no part.
        PathCoverDag weighed = Graphs.crossing();
        weighed.weight(3, 9);
        weighed.weight(4, 9);
        CHECK.due("weights play no part", weighed.antichain(), 0b00011);
    }

    private static void promise9Paths() {
        // Vertex 2 can be in one path alone.
        PathCoverDag x = Graphs.crossing();
        CHECK.due("crossing", x.paths(), 3);
        x.turn(2, false);
        CHECK.due("no path over a vertex that is off", x.paths(), 4);
        Graphs.link(x, 0, 3);
        CHECK.due("edge past the vertex that is off", x.paths(), 3);
        x.turn(2, true);
        CHECK.due("0 to 3 and 1 to 2 to 4", x.paths(), 2);
        CHECK.due("line", Graphs.line().paths(), 1);
        CHECK.due("line with gaps", Graphs.gappedLine().paths(), 3);
        PathCoverDag swap = Graphs.only(0b1111);
        Graphs.link(swap, 0, 2);
        Graphs.link(swap, 0, 3);
        Graphs.link(swap, 1, 2);
        CHECK.due("0 has to leave 2 to 1", swap.paths(), 2);
    }

    private static void promise10Heaviest() {
        PathCoverDag x = Graphs.only(0b111);
        Graphs.link(x, 0, 1);
        Graphs.link(x, 0, 2);
        x.weight(0, 9);
        x.weight(1, 2);
        x.weight(2, 3);
        CHECK.due("one heavy before two light", x.heaviest(), 9);
        x.weight(0, 4);
        CHECK.due("two light before one", x.heaviest(), 5);
        x.weight(3, 9);
        CHECK.due("off is not weighed", x.heaviest(), 5);
        x.turn(3, true);
        CHECK.due("on is weighed", x.heaviest(), 14);
        PathCoverDag nothing = new PathCoverDag();
        PathCoverDag most = new PathCoverDag();
        for (int v = 0; v <= 9; v++) {
            nothing.weight(v, 0);
            most.weight(v, 9);
        }
        CHECK.due("all weights 0", nothing.heaviest(), 0);
        CHECK.due("all weights 9", most.heaviest(), 90);
        PathCoverDag gapped = Graphs.gappedLine();
        gapped.weight(4, 5);
        CHECK.due("line with gaps", gapped.heaviest(), 5);
    }

    private static void promise11Height() {
        CHECK.due("crossing", Graphs.crossing().height(), 3);
        CHECK.due("line", Graphs.line().height(), 10);
        CHECK.due("line with gaps", Graphs.gappedLine().height(), 3);
        PathCoverDag x = new PathCoverDag();
        Graphs.link(x, 0, 9);
        Graphs.link(x, 2, 4);
        Graphs.link(x, 4, 8);
        CHECK.due("longest of two", x.height(), 3);
        x.turn(4, false);
        CHECK.due("a chain goes over what is off", x.height(), 2);
        x.turn(8, false);
        x.turn(9, false);
        CHECK.due("no chain ends in what is off", x.height(), 1);
        PathCoverDag light = Graphs.line();
        light.weight(3, 0);
        light.weight(4, 9);
        CHECK.due("weights play no part", light.height(), 10);
    }

    private static void promise12HeaviestChain() {
        PathCoverDag x = Graphs.only(0b11111);
        Graphs.link(x, 0, 1);
        Graphs.link(x, 1, 2);
        Graphs.link(x, 3, 4);
        x.weight(3, 2);
        x.weight(4, 2);
        CHECK.due("short and heavy", x.heaviestChain(), 4);
        x.weight(1, 7);
        CHECK.due("long", x.heaviestChain(), 9);
        x.turn(1, false);
        CHECK.due("off is not weighed", x.heaviestChain(), 4);
        x.weight(0, 9);
        CHECK.due("over what is off", x.heaviestChain(), 10);
        PathCoverDag nothing = Graphs.line();
        PathCoverDag most = Graphs.line();
        for (int v = 0; v <= 9; v++) {
            nothing.weight(v, 0);
            most.weight(v, 9);
        }
        CHECK.due("all weights 0", nothing.heaviestChain(), 0);
        CHECK.due("all weights 9", most.heaviestChain(), 90);
        PathCoverDag choice = Graphs.only(0b1111);
        Graphs.link(choice, 0, 1);
        Graphs.link(choice, 0, 2);
        Graphs.link(choice, 2, 3);
        choice.weight(1, 5);
        CHECK.due("the heavier branch", choice.heaviestChain(), 6);
        choice.weight(3, 6);
        CHECK.due("the other branch", choice.heaviestChain(), 8);
    }

    private static void promise13Antichains() {
        PathCoverDag x = Graphs.only(0b11);
        CHECK.due("two apart", x.antichains(), 4);
        Graphs.link(x, 0, 1);
        CHECK.due("one above the other", x.antichains(), 3);
        CHECK.due("one alone", Graphs.only(1 << 9).antichains(), 2);
        CHECK.due("line", Graphs.line().antichains(), 11);
        CHECK.due("line with gaps", Graphs.gappedLine().antichains(), 4);
        CHECK.due("crossing", Graphs.crossing().antichains(), 8);
    }

    private static void promise14Apart() {
        PathCoverDag x = Graphs.only(0b111);
        CHECK.due("three apart", x.apart(), 3);
        Graphs.link(x, 0, 1);
        CHECK.due("0 below 1", x.apart(), 2);
        Graphs.link(x, 1, 2);
        CHECK.due("0 below 1 below 2", x.apart(), 0);
        x.turn(1, false);
        CHECK.due("2 above 0 over what is off", x.apart(), 0);
        x.turn(9, true);
        CHECK.due("9 apart from both", x.apart(), 2);
        CHECK.due("one alone", Graphs.only(1 << 9).apart(), 0);
        CHECK.due("line with gaps", Graphs.gappedLine().apart(), 0);
        CHECK.due("crossing", Graphs.crossing().apart(), 2);
    }

    private static void promise15OrderAndLimits() {
        PathCoverDag x = Graphs.line();
        for (int badVertex : NO_VERTEX) {
            for (int badWeight : NO_WEIGHT) {
                CHECK.due("weight " + badVertex + " " + badWeight,
                        x.weight(badVertex, badWeight), PathCoverDag.BAD_VERTEX);
            }
        }
        x.turn(3, false);
        CHECK.due("a is off", x.above(3, 5), true);
        CHECK.due("b is off", x.above(2, 3), true);
        CHECK.due("one between is off", x.above(2, 4), true);
        x.turn(5, false);
        CHECK.due("both are off", x.above(3, 5), true);
        CHECK.due("both are off, the other way", x.above(5, 3), false);
        for (int v = 0; v <= 9; v++) {
            x.turn(v, false);
        }
        CHECK.due("all are off", x.above(0, 9), true);
    }

    private static void allVerticesOff() {
        PathCoverDag x = Graphs.line();
        for (int v = 0; v <= 9; v++) {
            x.weight(v, 9);
            x.turn(v, false);
        }
        Questions.due(CHECK, "all off", x, 0, 0, 0, 0, 0, 0, 0, 1, 0);
        for (int v = 0; v <= 9; v++) {
            x.turn(v, true);
            x.weight(v, 1);
        }
        Questions.due(CHECK, "all on again", x, 1, 1, 1, 1, 1, 10, 10, 11, 0);
    }

    private static void fullGraph() {
        answersAsFull("full", Graphs.full());
    }

    private static void questionsChangeNothing() {
        PathCoverDag x = Graphs.crossing();
        x.turn(2, false);
        x.weight(4, 6);
        int[] due = {2, 2, 0b11, 4, 7, 2, 7, 7, 2};
        for (int first = 0; first < due.length; first++) {
            for (int second = 0; second < due.length; second++) {
                CHECK.due("question " + first + " before " + second, Questions.ask(x, first), due[first]);
                CHECK.due("question " + second + " after " + first, Questions.ask(x, second), due[second]);
            }
            CHECK.due("above after question " + first, x.above(0, 4), true);
        }
        CHECK.due("edge kept", x.edge(0, 2, true), 1);
        CHECK.due("no edge made", x.edge(0, 4, false), 0);
        CHECK.due("weight kept", x.weight(4, 6), 6);
        CHECK.due("off kept", x.turn(2, false), 0);
        CHECK.due("on kept", x.turn(4, true), 1);
    }

    private static void objectsAreSeparate() {
        PathCoverDag x = new PathCoverDag();
        PathCoverDag y = new PathCoverDag();
        x.edge(0, 1, true);
        x.turn(2, false);
        x.weight(3, 9);
        answersAsNew("other object changed", y);
        CHECK.due("own change kept", x.heaviest(), 16);
    }

    private static void answersAsNew(String name, PathCoverDag x) {
        Questions.due(CHECK, name, x, 10, 10, 1023, 10, 10, 1, 1, 1024, 45);
    }

    private static void answersAsFull(String name, PathCoverDag x) {
        Questions.due(CHECK, name, x, 1, 1, 1, 1, 1, 10, 10, 11, 0);
    }
}
