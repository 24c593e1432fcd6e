/** All that can be seen of an object, to tell whether a call has changed anything. */
final class Everything {
    private Everything() {
    }

    /** Uses up 174 calls of each object and leaves both changed: reading an edge sets it. */
    static void same(Check check, String name, PathCoverDag got, PathCoverDag due) {
        // What is asked comes first: the calls that set something would mend what is held beside it.
        for (int question = 0; question < Questions.NAMES.length; question++) {
            check.due(name + ", then " + Questions.NAMES[question],
                    Questions.ask(got, question), Questions.ask(due, question));
        }
        for (int a = 0; a < Graphs.VERTICES; a++) {
            for (int b = 0; b < Graphs.VERTICES; b++) {
                check.due(name + ", then above " + a + " " + b, got.above(a, b), due.above(a, b));
            }
        }
        for (int a = 0; a < Graphs.VERTICES; a++) {
            for (int b = a + 1; b < Graphs.VERTICES; b++) {
                check.due(name + ", then edge " + a + " " + b, got.edge(a, b, true), due.edge(a, b, true));
            }
            check.due(name + ", then turn " + a, got.turn(a, true), due.turn(a, true));
            check.due(name + ", then weight " + a, got.weight(a, 1), due.weight(a, 1));
        }
    }
}
