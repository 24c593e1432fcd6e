/** The nine questions without arguments, in the document's order. */
final class Questions {
    static final String[] NAMES = {"chains", "width", "antichain", "paths", "heaviest",
        "height", "heaviestChain", "antichains", "apart"};

    private Questions() {
    }

    static int ask(PathCoverDag x, int question) {
        switch (question) {
            case 0: return x.chains();
            case 1: return x.width();
            case 2: return x.antichain();
            case 3: return x.paths();
            case 4: return x.heaviest();
            case 5: return x.height();
            case 6: return x.heaviestChain();
            case 7: return x.antichains();
            default: return x.apart();
        }
    }

    /** The answers due are in the order of NAMES. */
    static void due(Check check, String name, PathCoverDag x, int... due) {
        for (int question = 0; question < NAMES.length; question++) {
            check.due(name + ": " + NAMES[question], ask(x, question), due[question]);
        }
    }
}
