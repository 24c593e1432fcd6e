import java.io.IOException;
import java.nio.file.Files;
import java.nio.file.Path;
import java.util.List;

/** The example in README.md, call by call: each answer is as due and is the one told there. */
public final class ReadmeTest {
    private static final Check CHECK = new Check();

    private static List<String> lines;
    private static int calls = 0;

    public static void main(String[] args) throws IOException {
        lines = Files.readAllLines(Path.of("README.md"));
        PathCoverDag dag = new PathCoverDag();
        changes(dag);
        questions(dag);
        wrongArguments(dag);
        long told = lines.stream().filter(line -> line.startsWith("dag.")).count();
        CHECK.due("calls told in README.md", told, calls);
        CHECK.end();
    }

    private static void changes(PathCoverDag dag) {
        due("edge(0, 1, true)", dag.edge(0, 1, true), 0, "0");
        due("edge(1, 2, true)", dag.edge(1, 2, true), 0, "0");
        due("turn(1, false)", dag.turn(1, false), 1, "1");
        due("weight(2, 5)", dag.weight(2, 5), 1, "1");
    }

    private static void questions(PathCoverDag dag) {
        due("above(0, 2)", dag.above(0, 2) ? 1 : 0, 1, "true");
        due("chains()", dag.chains(), 8, "8");
        due("width()", dag.width(), 8, "8");
        due("antichain()", dag.antichain(), 0b1111111001, "1017");
        due("paths()", dag.paths(), 9, "9");
        due("heaviest()", dag.heaviest(), 12, "12");
        due("height()", dag.height(), 2, "2");
        due("heaviestChain()", dag.heaviestChain(), 6, "6");
        due("antichains()", dag.antichains(), 384, "384");
        due("apart()", dag.apart(), 35, "35");
    }

    private static void wrongArguments(PathCoverDag dag) {
        due("edge(2, 1, true)", dag.edge(2, 1, true), PathCoverDag.BAD_VERTEX, "BAD_VERTEX");
        due("turn(10, true)", dag.turn(10, true), PathCoverDag.BAD_VERTEX, "BAD_VERTEX");
        due("weight(2, 10)", dag.weight(2, 10), PathCoverDag.BAD_WEIGHT, "BAD_WEIGHT");
        due("weight(10, 10)", dag.weight(10, 10), PathCoverDag.BAD_VERTEX, "BAD_VERTEX");
        due("above(0, 10)", dag.above(0, 10) ? 1 : 0, 0, "false");
    }

    private static void due(String call, int got, int want, String told) {
        calls++;
        CHECK.due(call, got, want);
        CHECK.due("README.md tells " + told + " for " + call, isTold(call, told), true);
    }

    // A reason may stand behind the answer, after a colon.
    private static boolean isTold(String call, String answer) {
        for (String line : lines) {
            String[] parts = line.split("//");
            if (parts.length == 2 && parts[0].trim().equals("dag." + call + ";")) {
                return parts[1].split(":")[0].trim().equals(answer);
            }
        }
        return false;
    }
}
