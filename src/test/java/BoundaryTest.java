/**
 * Each sentence of the document that names a boundary case other than a
 * refused call, in the document's order: the least, the greatest, nothing at
 * all and everything there can be.
 */
public final class BoundaryTest {
    private static final Check CHECK = new Check();

    public static void main(String[] args) {
        termsVerticesZeroToNine();
        termsWeightsZeroToNine();
        termsEdgesToGreaterNumbers();
        termsAboveOverOneOrMoreEdges();
        termsOneVertexAloneIsAPath();
        termsPathOverEdgesChainOverAbove();
        termsOneVertexAloneIsAChainAndAnAntichain();
        termsOffAsIfNotThere();
        termsAboveOverVerticesThatAreOff();
        termsQuestionsChangeNothing();
        termsOffInNoSetOrList();
        promise1NoEdges();
        promise1AllOn();
        promise1WeightOne();
        promise2AnswersWhetherItWasThere();
        promise2VerticesThatAreOff();
        promise3AnswersWhetherItWasOn();
        promise4AnswersTheOldOne();
        promise4VerticesThatAreOff();
        promise5NoneAndAll();
        promise6NoneOneTen();
        promise6InAtLeastOne();
        promise7NoneOneTen();
        promise8SmallestAsAMask();
        promise8AllOff();
        promise9NoneOneTen();
        promise9NoTwoShareAVertex();
        promise9EdgesBetweenVerticesThatAreOn();
        promise10NothingAndMost();
        promise11NoneOneTen();
        promise12NothingAndMost();
        promise13EmptyOneCountedIn();
        promise14NonePairAll();
        promise15AboveWhereOneIsOff();
        everySetOnWithoutEdges();
        everySetOnOfTheLine();
        everySetOnOfTheFullGraph();
        CHECK.end();
    }

    // Terms: "There are ten VERTICES (0 to 9)"
    private static void termsVerticesZeroToNine() {
        PathCoverDag x = new PathCoverDag();
        CHECK.due("vertices", x.antichain(), 0b1111111111);
        CHECK.due("lowest off", x.turn(0, false), 1);
        CHECK.due("without the lowest", x.antichain(), 0b1111111110);
        CHECK.due("highest off", x.turn(9, false), 1);
        CHECK.due("without the highest", x.antichain(), 0b0111111110);
        CHECK.due("one below the lowest", x.turn(-1, false), PathCoverDag.BAD_VERTEX);
        CHECK.due("one over the highest", x.turn(10, false), PathCoverDag.BAD_VERTEX);
        CHECK.due("the same as before", x.antichain(), 0b0111111110);
    }

    // Terms: "each with a WEIGHT 0 to 9"
    private static void termsWeightsZeroToNine() {
        PathCoverDag x = Graphs.only(1);
        for (int weight = 0; weight <= 9; weight++) {
            CHECK.due("weight " + weight + " is taken", x.weight(0, weight) >= 0, true);
            CHECK.due("antichain of weight " + weight, x.heaviest(), weight);
            CHECK.due("chain of weight " + weight, x.heaviestChain(), weight);
        }
        CHECK.due("one below the least", x.weight(0, -1), PathCoverDag.BAD_WEIGHT);
        CHECK.due("one over the greatest", x.weight(0, 10), PathCoverDag.BAD_WEIGHT);
        CHECK.due("the greatest still", x.heaviest(), 9);
    }

    // Terms: "EDGES from a vertex to one with a greater number"
    private static void termsEdgesToGreaterNumbers() {
        for (int a = 0; a <= 9; a++) {
            for (int b = 0; b <= 9; b++) {
                PathCoverDag x = new PathCoverDag();
                String name = "edge " + a + " " + b;
                CHECK.due(name, x.edge(a, b, true), a < b ? 0 : PathCoverDag.BAD_VERTEX);
                CHECK.due(name + ", then above", x.above(a, b), a < b);
                CHECK.due(name + ", then above the other way", x.above(b, a), false);
                CHECK.due(name + ", then paths", x.paths(), a < b ? 9 : 10);
                CHECK.due(name + ", then apart", x.apart(), a < b ? 44 : 45);
            }
        }
    }

    // Terms: "Vertex b is ABOVE vertex a if one can go from a to b over one or more edges."
    private static void termsAboveOverOneOrMoreEdges() {
        PathCoverDag full = Graphs.full();
        for (int v = 0; v <= 9; v++) {
            CHECK.due("over no edge: above " + v + " " + v, full.above(v, v), false);
        }
        PathCoverDag one = new PathCoverDag();
        one.edge(0, 9, true);
        CHECK.due("over one edge", one.above(0, 9), true);
        PathCoverDag two = new PathCoverDag();
        two.edge(0, 5, true);
        two.edge(5, 9, true);
        CHECK.due("over two edges", two.above(0, 9), true);
        PathCoverDag nine = Graphs.line();
        CHECK.due("over nine edges", nine.above(0, 9), true);
        for (int gap = 0; gap < 9; gap++) {
            nine.edge(gap, gap + 1, false);
            CHECK.due("without the edge from " + gap, nine.above(0, 9), false);
            nine.edge(gap, gap + 1, true);
        }
        CHECK.due("over nine edges again", nine.above(0, 9), true);
    }

    // Terms: "(one vertex alone is a path too)"
    private static void termsOneVertexAloneIsAPath() {
        for (int v = 0; v <= 9; v++) {
            CHECK.due("paths with only " + v + " on", Graphs.only(1 << v).paths(), 1);
        }
        CHECK.due("ten alone", new PathCoverDag().paths(), 10);
        PathCoverDag x = Graphs.line();
        x.edge(8, 9, false);
        CHECK.due("nine and one alone", x.paths(), 2);
    }

    // Terms: "each one is reached from the one before by an edge", "each one is above the one before"
    private static void termsPathOverEdgesChainOverAbove() {
        PathCoverDag x = Graphs.only(0b101);
        x.edge(0, 1, true);
        x.edge(1, 2, true);
        CHECK.due("above without an edge: paths", x.paths(), 2);
        CHECK.due("above without an edge: chains", x.chains(), 1);
        CHECK.due("above without an edge: height", x.height(), 2);
        x.edge(0, 2, true);
        CHECK.due("with an edge: paths", x.paths(), 1);
        CHECK.due("with an edge: chains", x.chains(), 1);
    }

    private static void termsOneVertexAloneIsAChainAndAnAntichain() {
        for (int v = 0; v <= 9; v++) {
            PathCoverDag x = Graphs.full();
            Graphs.turnOnly(x, 1 << v);
            x.weight(v, 7);
            Questions.due(CHECK, "only " + v + " on", x, 1, 1, 1 << v, 1, 7, 1, 7, 2, 0);
        }
    }

    // Terms: "they are then as if they were not there, but for being above"
    private static void termsOffAsIfNotThere() {
        for (int v = 0; v <= 9; v++) {
            PathCoverDag x = Graphs.line();
            x.weight(v, 9);
            x.turn(v, false);
            int lowest = v == 0 ? 0b10 : 0b01;
            int paths = v == 0 || v == 9 ? 1 : 2;
            Questions.due(CHECK, "line without " + v, x, 1, 1, lowest, paths, 1, 9, 9, 10, 0);
            x.turn(v, true);
            Questions.due(CHECK, "line with " + v + " again", x, 1, 1, 1, 1, 9, 10, 18, 11, 0);
        }
    }

    // Terms: "b is still above a if one can go from a to b over vertices that are off"
    private static void termsAboveOverVerticesThatAreOff() {
        PathCoverDag x = Graphs.line();
        Graphs.turnOnly(x, 0b1000000001);
        CHECK.due("over eight that are off: above", x.above(0, 9), true);
        Questions.due(CHECK, "over eight that are off", x, 1, 1, 1, 2, 1, 2, 2, 3, 0);
        x.edge(4, 5, false);
        CHECK.due("edge between two that are off taken away: above", x.above(0, 9), false);
        Questions.due(CHECK, "edge between two that are off taken away", x, 2, 2, 0b1000000001, 2, 2, 1, 1, 4, 1);
        x.edge(4, 5, true);
        CHECK.due("edge between two that are off added: above", x.above(0, 9), true);
        Questions.due(CHECK, "edge between two that are off added", x, 1, 1, 1, 2, 1, 2, 2, 3, 0);
    }

    // Terms: "The calls below change nothing that any call answers."
    private static void termsQuestionsChangeNothing() {
        for (int question = 0; question < Questions.NAMES.length; question++) {
            for (int graph = 0; graph < 5; graph++) {
                PathCoverDag x = graph(graph);
                int first = Questions.ask(x, question);
                String name = "graph " + graph + ": " + Questions.NAMES[question];
                CHECK.due(name + " again", Questions.ask(x, question), first);
                Everything.same(CHECK, name, x, graph(graph));
            }
        }
        for (int graph = 0; graph < 5; graph++) {
            PathCoverDag x = graph(graph);
            for (int a = -1; a <= 10; a++) {
                for (int b = -1; b <= 10; b++) {
                    x.above(a, b);
                }
            }
            Everything.same(CHECK, "graph " + graph + ": above", x, graph(graph));
        }
    }

    private static PathCoverDag graph(int number) {
        switch (number) {
            case 0: return new PathCoverDag();
            case 1: return Graphs.only(0);
            case 2: return Graphs.full();
            case 3: return Graphs.gappedLine();
            default: return Graphs.crossing();
        }
    }

    // Terms: "Vertices that are off are in none of the sets and lists asked for."
    private static void termsOffInNoSetOrList() {
        for (int v = 0; v <= 9; v++) {
            PathCoverDag x = new PathCoverDag();
            x.weight(v, 9);
            x.turn(v, false);
            Questions.due(CHECK, "no edges, " + v + " off", x, 9, 9, 1023 - (1 << v), 9, 9, 1, 1, 512, 36);
        }
    }

    // Promise 1: "No edges"
    private static void promise1NoEdges() {
        PathCoverDag x = new PathCoverDag();
        for (int a = 0; a <= 9; a++) {
            for (int b = a + 1; b <= 9; b++) {
                CHECK.due("new: above " + a + " " + b, x.above(a, b), false);
                CHECK.due("new: edge " + a + " " + b, x.edge(a, b, false), 0);
            }
        }
    }

    // Promise 1: "all vertices are on"
    private static void promise1AllOn() {
        PathCoverDag x = new PathCoverDag();
        CHECK.due("new: antichain", x.antichain(), 1023);
        for (int v = 0; v <= 9; v++) {
            CHECK.due("new: turn " + v, x.turn(v, true), 1);
        }
    }

    // Promise 1: "with weight 1"
    private static void promise1WeightOne() {
        PathCoverDag x = new PathCoverDag();
        CHECK.due("new: heaviest", x.heaviest(), 10);
        CHECK.due("new: heaviestChain", x.heaviestChain(), 1);
        for (int v = 0; v <= 9; v++) {
            CHECK.due("new: weight " + v, x.weight(v, 1), 1);
        }
    }

    // Promise 2: "Else answers 1 if it was there before, 0 if not."
    private static void promise2AnswersWhetherItWasThere() {
        for (int a = 0; a <= 9; a++) {
            for (int b = a + 1; b <= 9; b++) {
                PathCoverDag x = new PathCoverDag();
                String name = "edge " + a + " " + b + ": ";
                CHECK.due(name + "take what is not there", x.edge(a, b, false), 0);
                CHECK.due(name + "not above", x.above(a, b), false);
                CHECK.due(name + "add", x.edge(a, b, true), 0);
                CHECK.due(name + "above", x.above(a, b), true);
                CHECK.due(name + "add what is there", x.edge(a, b, true), 1);
                CHECK.due(name + "above still", x.above(a, b), true);
                CHECK.due(name + "take", x.edge(a, b, false), 1);
                CHECK.due(name + "not above any more", x.above(a, b), false);
                Everything.same(CHECK, name + "as new", x, new PathCoverDag());
            }
        }
    }

    // Promise 2 refuses nothing but what it names: a vertex that is off is no reason.
    private static void promise2VerticesThatAreOff() {
        PathCoverDag x = Graphs.only(0);
        for (int v = 0; v < 9; v++) {
            CHECK.due("off: add edge from " + v, x.edge(v, v + 1, true), 0);
            CHECK.due("off: edge from " + v + " is there", x.edge(v, v + 1, true), 1);
        }
        CHECK.due("off: take edge", x.edge(8, 9, false), 1);
        CHECK.due("off: edge is not there", x.edge(8, 9, true), 0);
        Graphs.turnOnly(x, Graphs.ALL);
        Everything.same(CHECK, "edges set while off", x, Graphs.line());
    }

    // Promise 3: "Else answers 1 if it was on, 0 if not."
    private static void promise3AnswersWhetherItWasOn() {
        for (int v = 0; v <= 9; v++) {
            PathCoverDag x = Graphs.line();
            String name = "turn " + v + ": ";
            CHECK.due(name + "on when on", x.turn(v, true), 1);
            CHECK.due(name + "on still", x.height(), 10);
            CHECK.due(name + "off when on", x.turn(v, false), 1);
            CHECK.due(name + "off now", x.height(), 9);
            CHECK.due(name + "off when off", x.turn(v, false), 0);
            CHECK.due(name + "off still", x.height(), 9);
            CHECK.due(name + "on when off", x.turn(v, true), 0);
            Everything.same(CHECK, name + "on again", x, Graphs.line());
        }
    }

    // Promise 4: "Else answers the old one."
    private static void promise4AnswersTheOldOne() {
        for (int v = 0; v <= 9; v++) {
            PathCoverDag x = new PathCoverDag();
            int old = 1;
            for (int weight : new int[] {0, 0, 9, 9, 0, 1, 8, 1}) {
                CHECK.due("weight " + v + " " + weight, x.weight(v, weight), old);
                old = weight;
            }
            Everything.same(CHECK, "weight " + v + " 1 again", x, new PathCoverDag());
        }
    }

    // Promise 4 refuses nothing but what it names: a vertex that is off is no reason.
    private static void promise4VerticesThatAreOff() {
        PathCoverDag x = Graphs.only(0);
        for (int v = 0; v <= 9; v++) {
            CHECK.due("off: weight " + v + " 9", x.weight(v, 9), 1);
            CHECK.due("off: weight " + v + " 0", x.weight(v, 0), 9);
            CHECK.due("off: weight " + v + " v", x.weight(v, v), 0);
        }
        CHECK.due("off: heaviest", x.heaviest(), 0);
        Graphs.turnOnly(x, Graphs.ALL);
        CHECK.due("on again: heaviest", x.heaviest(), 45);
        CHECK.due("on again: heaviestChain", x.heaviestChain(), 9);
    }

    // Promise 5: "Whether b is above a"
    private static void promise5NoneAndAll() {
        PathCoverDag none = new PathCoverDag();
        PathCoverDag full = Graphs.full();
        PathCoverDag line = Graphs.line();
        for (int a = 0; a <= 9; a++) {
            for (int b = 0; b <= 9; b++) {
                CHECK.due("no edges: above " + a + " " + b, none.above(a, b), false);
                CHECK.due("full: above " + a + " " + b, full.above(a, b), a < b);
                CHECK.due("line: above " + a + " " + b, line.above(a, b), a < b);
            }
        }
    }

    // Promise 6: "The least number of chains such that every vertex that is on"
    private static void promise6NoneOneTen() {
        CHECK.due("chains, all off", Graphs.only(0).chains(), 0);
        CHECK.due("chains, one on", Graphs.only(1).chains(), 1);
        CHECK.due("chains, line", Graphs.line().chains(), 1);
        CHECK.due("chains, no edges", new PathCoverDag().chains(), 10);
    }

    // Promise 6: "is in at least one of them": chains may share vertices, as here 4.
    private static void promise6InAtLeastOne() {
        PathCoverDag x = new PathCoverDag();
        for (int v = 0; v < 4; v++) {
            x.edge(v, 4, true);
            x.edge(4, 5 + v, true);
        }
        x.turn(9, false);
        CHECK.due("four below and four above one: chains", x.chains(), 4);
        CHECK.due("four below and four above one: paths", x.paths(), 7);
    }

    // Promise 7: "The greatest number of vertices in an antichain."
    private static void promise7NoneOneTen() {
        CHECK.due("width, all off", Graphs.only(0).width(), 0);
        CHECK.due("width, one on", Graphs.only(1 << 9).width(), 1);
        CHECK.due("width, full", Graphs.full().width(), 1);
        CHECK.due("width, no edges", new PathCoverDag().width(), 10);
    }

    // Promise 8: "Of the antichains with that many vertices, the one that is smallest as a mask"
    private static void promise8SmallestAsAMask() {
        CHECK.due("antichain, ten of ten", new PathCoverDag().antichain(), 1023);
        CHECK.due("antichain, one of ten", Graphs.full().antichain(), 1);
        CHECK.due("antichain, only the highest", Graphs.only(1 << 9).antichain(), 512);
        // Five layers of two, each above the one before: five antichains of two.
        PathCoverDag x = new PathCoverDag();
        for (int v = 0; v < 8; v += 2) {
            x.edge(v, v + 2, true);
            x.edge(v, v + 3, true);
            x.edge(v + 1, v + 2, true);
            x.edge(v + 1, v + 3, true);
        }
        for (int layer = 0; layer < 5; layer++) {
            CHECK.due("antichain, lowest layer " + layer, x.antichain(), 0b11 << 2 * layer);
            x.turn(2 * layer, false);
        }
        CHECK.due("antichain, one of each layer", x.antichain(), 0b10);
        // The greater number of vertices goes before the smaller mask.
        PathCoverDag top = new PathCoverDag();
        for (int v = 0; v < 8; v++) {
            for (int b = v + 1; b <= 8; b++) {
                top.edge(v, b, true);
            }
        }
        top.edge(0, 9, true);
        top.edge(7, 9, true);
        CHECK.due("antichain, two at the top", top.antichain(), 0b1100000000);
    }

    // Promise 8: "0 if all vertices are off."
    private static void promise8AllOff() {
        CHECK.due("antichain, all off", Graphs.only(0).antichain(), 0);
        PathCoverDag x = Graphs.full();
        Graphs.turnOnly(x, 0);
        CHECK.due("antichain, full and all off", x.antichain(), 0);
        x.turn(0, true);
        CHECK.due("antichain, not all off", x.antichain(), 1);
    }

    // Promise 9: "The least number of paths"
    private static void promise9NoneOneTen() {
        CHECK.due("paths, all off", Graphs.only(0).paths(), 0);
        CHECK.due("paths, line", Graphs.line().paths(), 1);
        CHECK.due("paths, full", Graphs.full().paths(), 1);
        CHECK.due("paths, no edges", new PathCoverDag().paths(), 10);
    }

    // Promise 9: "no two of which share a vertex"
    private static void promise9NoTwoShareAVertex() {
        PathCoverDag below = new PathCoverDag();
        PathCoverDag above = new PathCoverDag();
        for (int v = 0; v <= 8; v++) {
            below.edge(v, 9, true);
            above.edge(0, v + 1, true);
        }
        CHECK.due("paths, nine below one", below.paths(), 9);
        CHECK.due("paths, nine above one", above.paths(), 9);
    }

    // Promise 9: "paths go over edges between vertices that are on."
    private static void promise9EdgesBetweenVerticesThatAreOn() {
        PathCoverDag x = Graphs.line();
        Graphs.turnOnly(x, 0b0101010101);
        CHECK.due("paths, every second off", x.paths(), 5);
        CHECK.due("chains, every second off", x.chains(), 1);
        for (int v = 0; v < 8; v += 2) {
            x.edge(v, v + 2, true);
            CHECK.due("paths, edges past those that are off up to " + v, x.paths(), 4 - v / 2);
        }
    }

    // Promise 10: "The greatest sum of weights of the vertices of an antichain."
    private static void promise10NothingAndMost() {
        PathCoverDag x = new PathCoverDag();
        Graphs.weighAll(x, 9);
        CHECK.due("heaviest, ten of weight 9", x.heaviest(), 90);
        Graphs.weighAll(x, 0);
        CHECK.due("heaviest, ten of weight 0", x.heaviest(), 0);
        Graphs.weighAll(x, 9);
        Graphs.turnOnly(x, 0);
        CHECK.due("heaviest, all off", x.heaviest(), 0);
        PathCoverDag full = Graphs.full();
        Graphs.weighAll(full, 9);
        CHECK.due("heaviest, one of ten", full.heaviest(), 9);
        // One vertex of weight 9 against nine of weight 1 and of weight 0.
        PathCoverDag star = new PathCoverDag();
        for (int v = 1; v <= 9; v++) {
            star.edge(0, v, true);
        }
        star.weight(0, 9);
        CHECK.due("heaviest, as heavy as nine", star.heaviest(), 9);
        star.weight(0, 8);
        CHECK.due("heaviest, lighter than nine", star.heaviest(), 9);
        star.weight(0, 9);
        star.weight(5, 0);
        CHECK.due("heaviest, heavier than nine", star.heaviest(), 9);
        CHECK.due("width, nine", star.width(), 9);
    }

    // Promise 11: "The number of vertices in the longest chain."
    private static void promise11NoneOneTen() {
        CHECK.due("height, all off", Graphs.only(0).height(), 0);
        CHECK.due("height, no edges", new PathCoverDag().height(), 1);
        CHECK.due("height, line", Graphs.line().height(), 10);
        PathCoverDag weightless = Graphs.line();
        Graphs.weighAll(weightless, 0);
        CHECK.due("height, line of weight 0", weightless.height(), 10);
        Graphs.turnOnly(weightless, 0);
        CHECK.due("height, line all off", weightless.height(), 0);
    }

    // Promise 12: "The greatest sum of weights of the vertices of a chain."
    private static void promise12NothingAndMost() {
        PathCoverDag x = Graphs.line();
        Graphs.weighAll(x, 9);
        CHECK.due("heaviestChain, ten of weight 9", x.heaviestChain(), 90);
        Graphs.weighAll(x, 0);
        CHECK.due("heaviestChain, ten of weight 0", x.heaviestChain(), 0);
        Graphs.weighAll(x, 9);
        Graphs.turnOnly(x, 0);
        CHECK.due("heaviestChain, all off", x.heaviestChain(), 0);
        // One vertex of weight 9 beside a chain of nine.
        PathCoverDag beside = Graphs.line();
        beside.edge(8, 9, false);
        beside.weight(9, 9);
        CHECK.due("heaviestChain, as heavy as nine", beside.heaviestChain(), 9);
        beside.weight(0, 0);
        CHECK.due("heaviestChain, heavier than nine", beside.heaviestChain(), 9);
        beside.weight(0, 2);
        CHECK.due("heaviestChain, lighter than nine", beside.heaviestChain(), 10);
    }

    // Promise 13: "How many antichains there are, the empty one counted in."
    private static void promise13EmptyOneCountedIn() {
        CHECK.due("antichains, all off", Graphs.only(0).antichains(), 1);
        CHECK.due("antichains, one on", Graphs.only(1).antichains(), 2);
        CHECK.due("antichains, no edges", new PathCoverDag().antichains(), 1024);
        CHECK.due("antichains, full", Graphs.full().antichains(), 11);
        PathCoverDag x = Graphs.full();
        Graphs.turnOnly(x, 0);
        CHECK.due("antichains, full and all off", x.antichains(), 1);
        PathCoverDag weightless = new PathCoverDag();
        Graphs.weighAll(weightless, 0);
        CHECK.due("antichains, weights play no part", weightless.antichains(), 1024);
    }

    // Promise 14: "How many pairs of vertices that are on are neither above one another."
    private static void promise14NonePairAll() {
        CHECK.due("apart, all off", Graphs.only(0).apart(), 0);
        CHECK.due("apart, one on", Graphs.only(1).apart(), 0);
        CHECK.due("apart, lowest and highest on", Graphs.only(0b1000000001).apart(), 1);
        CHECK.due("apart, no edges", new PathCoverDag().apart(), 45);
        CHECK.due("apart, full", Graphs.full().apart(), 0);
        CHECK.due("apart, line", Graphs.line().apart(), 0);
    }

    // Promise 15: "above: asked of all vertices, also where a or b itself is off."
    private static void promise15AboveWhereOneIsOff() {
        for (int a = 0; a <= 9; a++) {
            for (int b = 0; b <= 9; b++) {
                PathCoverDag x = Graphs.line();
                String name = "above " + a + " " + b;
                x.turn(a, false);
                CHECK.due(name + ", a is off", x.above(a, b), a < b);
                x.turn(b, false);
                CHECK.due(name + ", both are off", x.above(a, b), a < b);
                x.turn(a, true);
                CHECK.due(name + ", b is off", x.above(a, b), a < b);
                Graphs.turnOnly(x, 0);
                CHECK.due(name + ", all are off", x.above(a, b), a < b);
            }
        }
    }

    // From all off to all on, each of the 1024 sets of vertices that are on.

    private static void everySetOnWithoutEdges() {
        for (int on = 0; on <= Graphs.ALL; on++) {
            PathCoverDag x = weighed(new PathCoverDag(), on);
            int size = Integer.bitCount(on);
            Questions.due(CHECK, "no edges, on " + on, x, size, size, on, size, sum(on),
                    on == 0 ? 0 : 1, greatest(on), 1 << size, size * (size - 1) / 2);
        }
    }

    private static void everySetOnOfTheLine() {
        for (int on = 0; on <= Graphs.ALL; on++) {
            int runs = Integer.bitCount(on & ~(on << 1));
            totalOrder("line, on " + on, weighed(Graphs.line(), on), on, runs);
        }
    }

    private static void everySetOnOfTheFullGraph() {
        for (int on = 0; on <= Graphs.ALL; on++) {
            totalOrder("full, on " + on, weighed(Graphs.full(), on), on, on == 0 ? 0 : 1);
        }
    }

    private static void totalOrder(String name, PathCoverDag x, int on, int paths) {
        int size = Integer.bitCount(on);
        int one = on == 0 ? 0 : 1;
        Questions.due(CHECK, name, x, one, one, Integer.lowestOneBit(on), paths, greatest(on),
                size, sum(on), size + 1, 0);
    }

    /** Vertex v has weight v: no two have the same one, and 0 and 9 are among them. */
    private static PathCoverDag weighed(PathCoverDag x, int on) {
        for (int v = 0; v <= 9; v++) {
            x.weight(v, v);
        }
        Graphs.turnOnly(x, on);
        return x;
    }

    private static int sum(int on) {
        int sum = 0;
        for (int v = 0; v <= 9; v++) {
            sum += (on >> v & 1) * v;
        }
        return sum;
    }

    private static int greatest(int on) {
        return on == 0 ? 0 : 31 - Integer.numberOfLeadingZeros(on);
    }
}
