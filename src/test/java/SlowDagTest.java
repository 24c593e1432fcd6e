/** Long runs of mixed calls, right and wrong ones, each answer compared with SlowDag's. */
public final class SlowDagTest {
    private static final int RUNS = 200;
    private static final int ROUNDS = 8;
    private static final Check CHECK = new Check();

    // A fixed row of numbers, so that every run of the test makes the same calls.
    private static long row = 20261115;

    public static void main(String[] args) {
        for (int run = 0; run < RUNS; run++) {
            run(run);
        }
        CHECK.end();
    }

    // 8 rounds of at most 21 changes and 9 questions, and 196 of above: within 512 calls.
    private static void run(int run) {
        PathCoverDag x = new PathCoverDag();
        SlowDag slow = new SlowDag();
        int oddsOfEdge = 1 + run % 9;
        int oddsOfOn = 1 + run / 9 % 9;
        for (int round = 0; round < ROUNDS; round++) {
            String name = "run " + run + " round " + round;
            int changes = 1 + below(21);
            for (int i = 0; i < changes; i++) {
                change(name, x, slow, oddsOfEdge, oddsOfOn);
            }
            Questions.due(CHECK, name, x, slow.answers());
        }
        for (int a = -2; a < 12; a++) {
            for (int b = -2; b < 12; b++) {
                CHECK.due("run " + run + " above " + a + " " + b, x.above(a, b), slow.above(a, b));
            }
        }
    }

    private static void change(String name, PathCoverDag x, SlowDag slow, int oddsOfEdge, int oddsOfOn) {
        int kind = below(10);
        int a = below(13) - 1;
        int b = below(13) - 1;
        if (kind < 7) {
            // Mostly the right way round, for otherwise most would be refused.
            int low = below(8) == 0 ? a : Math.min(a, b);
            int high = low == a ? b : a;
            boolean there = below(10) < oddsOfEdge;
            CHECK.due(name + ": edge " + low + " " + high + " " + there,
                    x.edge(low, high, there), slow.edge(low, high, there));
        } else if (kind < 8) {
            boolean on = below(10) < oddsOfOn;
            CHECK.due(name + ": turn " + a + " " + on, x.turn(a, on), slow.turn(a, on));
        } else {
            CHECK.due(name + ": weight " + a + " " + b, x.weight(a, b), slow.weight(a, b));
        }
    }

    private static int below(int bound) {
        row = row * 6364136223846793005L + 1442695040888963407L;
        return (int) ((row >>> 33) % bound);
    }
}
