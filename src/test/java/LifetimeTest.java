import java.util.List;

/** "An object is used for at most 512 calls after it has been made": the 512th call still answers as due. */
public final class LifetimeTest {
    private static final int LIFETIME = 512;
    private static final Check CHECK = new Check();

    public static void main(String[] args) {
        eachQuestionAsTheLastCall();
        aboveAsTheLastCall();
        changesAsTheLastCall();
        eachQuestionInEveryCall();
        changesInEveryCall();
        laterCallsEnd();
        CHECK.end();
    }

    private static void eachQuestionAsTheLastCall() {
        for (int question = 0; question < Questions.NAMES.length; question++) {
            SlowDag slow = new SlowDag();
            PathCoverDag x = usedBeforeLastCall(slow);
            CHECK.due("last call " + Questions.NAMES[question], Questions.ask(x, question), slow.answers()[question]);
        }
    }

    private static void aboveAsTheLastCall() {
        for (int a = -1; a <= 10; a++) {
            for (int b = -1; b <= 10; b++) {
                SlowDag slow = new SlowDag();
                PathCoverDag x = usedBeforeLastCall(slow);
                CHECK.due("last call above " + a + " " + b, x.above(a, b), slow.above(a, b));
            }
        }
    }

    private static void changesAsTheLastCall() {
        for (int v = -1; v <= 10; v++) {
            SlowDag slow = new SlowDag();
            CHECK.due("last call edge " + v, usedBeforeLastCall(slow).edge(v, v + 1, true), slow.edge(v, v + 1, true));
            slow = new SlowDag();
            CHECK.due("last call turn " + v, usedBeforeLastCall(slow).turn(v, false), slow.turn(v, false));
            slow = new SlowDag();
            CHECK.due("last call weight " + v, usedBeforeLastCall(slow).weight(v, v), slow.weight(v, v));
        }
    }

    // Edges all over, turned on and off, weighed anew, and refused calls among them.
    private static PathCoverDag usedBeforeLastCall(SlowDag slow) {
        PathCoverDag x = new PathCoverDag();
        for (int i = 1; i < LIFETIME; i++) {
            String name = "call " + i;
            int a = i * 7 % 12 - 1;
            int b = i * 5 % 11;
            if (i % 8 == 0) {
                CHECK.due(name, x.turn(a, i % 3 != 0), slow.turn(a, i % 3 != 0));
            } else if (i % 4 == 0) {
                CHECK.due(name, x.weight(a, b), slow.weight(a, b));
            } else {
                CHECK.due(name, x.edge(a, b, i % 5 < 2), slow.edge(a, b, i % 5 < 2));
            }
        }
        return x;
    }

    private static void eachQuestionInEveryCall() {
        int[] due = {10, 10, 1023, 10, 10, 1, 1, 1024, 45};
        for (int question = 0; question < due.length; question++) {
            PathCoverDag x = new PathCoverDag();
            for (int i = 1; i <= LIFETIME; i++) {
                CHECK.due(Questions.NAMES[question] + ", call " + i, Questions.ask(x, question), due[question]);
            }
        }
    }

    private static void changesInEveryCall() {
        PathCoverDag edge = new PathCoverDag();
        PathCoverDag turn = new PathCoverDag();
        PathCoverDag weight = new PathCoverDag();
        PathCoverDag above = Graphs.line();
        for (int i = 1; i <= LIFETIME; i++) {
            CHECK.due("edge, call " + i, edge.edge(0, 9, i % 2 == 1), (i + 1) % 2);
            CHECK.due("turn, call " + i, turn.turn(9, i % 2 == 0), i % 2);
            CHECK.due("weight, call " + i, weight.weight(9, i % 10), i == 1 ? 1 : (i - 1) % 10);
            if (i > 9) {
                CHECK.due("above, call " + i, above.above(0, 9), true);
            }
        }
    }

    // What later calls answer is free, but by LANGUAGE.md no call may throw or fail to end.
    private static void laterCallsEnd() {
        for (PathCoverDag x : List.of(new PathCoverDag(), Graphs.full(), Graphs.only(0))) {
            for (int i = 0; i < 2 * LIFETIME; i++) {
                x.edge(i % 12 - 1, i % 11, i % 3 == 0);
                x.turn(i % 12 - 1, i % 2 == 0);
                x.weight(i % 12 - 1, i % 13 - 1);
                x.above(i % 12 - 1, i % 11);
                Questions.ask(x, i % Questions.NAMES.length);
            }
        }
    }
}
