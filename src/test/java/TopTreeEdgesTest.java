import java.util.List;

/** The edges that promises 10 to 14 name, a sentence at a time. */
public final class TopTreeEdgesTest {
    private static final int BAD_ARG = -1;
    private static final int NONE = -4;

    public static void main(String[] args) {
        sizeOfNone();
        sizeOfTheLeastAndTheGreatest();
        letterOfNone();
        letterOutsideTheTree();
        letterInsideTheTree();
        rankOfNone();
        rankOfTheFirstAndTheLast();
        rankAmongTheSameSize();
        statesOfNone();
        statesAreNoneOrAll();
        runsOfNone();
        runsAreNoneOrAll();
        runsToAFinalStateAlone();
        onlyTheTopmostTreeIsRead();
        Due.end();
    }

    private static void sizeOfNone() {
        Due.sentence("Promise 10: NONE if there is none");
        Refusal.in(Situation.NEW_OBJECT, "size()", NONE, TreeLanguages::size);
        Refusal.in(Situation.EMPTIED, "size()", NONE, TreeLanguages::size);
    }

    private static void sizeOfTheLeastAndTheGreatest() {
        Due.sentence("Promise 10: The size of the topmost tree on the stack");
        TreeLanguages x = new TreeLanguages();
        x.leaf(0);
        for (int size = 1; size <= 12; size++) {
            Due.due("size() of a chain", x.size(), size);
            x.one();
        }
        Due.due("size() after one() was refused", x.size(), 12);
        Due.due("size() of the 12th leaf", Situation.TWELVE_LEAVES.reach().size(), 1);
        Due.due("size() of a loaded tree", Situation.LOADED.reach().size(), 7);
        for (int n = 1; n <= 7; n++) {
            x.load(6, n, 0);
            Due.due("size() of a loaded tree", x.size(), n);
        }
    }

    private static void letterOfNone() {
        Due.sentence("Promise 11: NONE if there is none: no tree");
        for (int i : new int[] {0, 1, 11, 12, -1, Integer.MIN_VALUE, Integer.MAX_VALUE}) {
            Refusal.in(Situation.NEW_OBJECT, "letter(" + i + ")", NONE, x -> x.letter(i));
            Refusal.in(Situation.EMPTIED, "letter(" + i + ")", NONE, x -> x.letter(i));
        }
    }

    private static void letterOutsideTheTree() {
        Due.sentence("Promise 11: NONE if there is none: no such letter");
        for (Situation situation : Situation.values()) {
            if (!situation.isEmpty()) {
                for (int i : Refusal.outside(0, situation.reach().size() - 1)) {
                    Refusal.in(situation, "letter(" + i + ")", NONE, x -> x.letter(i));
                }
            }
        }
    }

    private static void letterInsideTheTree() {
        Due.sentence("Promise 11: its top letter, then its first child, then its second one");
        for (String tree : new String[] {"0", "1", "20", "310", "3021", "3201", "33012301", "33333010101",
            "30313031300", "222222222221", "323013230120"}) {
            readLetters(tree);
        }
    }

    private static void readLetters(String tree) {
        TreeLanguages x = new TreeLanguages();
        Due.push(x, tree);
        for (int i = 0; i < tree.length(); i++) {
            Due.due("letter(" + i + ") of " + tree, x.letter(i), tree.charAt(i) - '0');
        }
        Due.due("letter(-1) of " + tree, x.letter(-1), NONE);
        Due.due("letter(" + tree.length() + ") of " + tree, x.letter(tree.length()), NONE);
    }

    private static void rankOfNone() {
        Due.sentence("Promise 12: NONE if there is none");
        Refusal.in(Situation.NEW_OBJECT, "rank()", NONE, TreeLanguages::rank);
        Refusal.in(Situation.EMPTIED, "rank()", NONE, TreeLanguages::rank);
    }

    private static void rankOfTheFirstAndTheLast() {
        Due.sentence("Promise 12: How many trees of the same size come before");
        for (int n = 1; n <= 12; n++) {
            List<String> trees = Model.treesOfSize(n);
            int last = trees.size() - 1;
            rankIs(trees.get(0), 0);
            rankIs(trees.get(1), 1);
            rankIs(trees.get(last - 1), last - 1);
            rankIs(trees.get(last), last);
        }
    }

    /** The numbers of trees are told here by themselves: 2, 2, 6, 14, 42 of sizes 1 to 5. */
    private static void rankAmongTheSameSize() {
        Due.sentence("Promise 12: of the same size");
        rankIs("0", 0);
        rankIs("1", 1);
        rankIs("20", 0);
        rankIs("21", 1);
        rankIs("221", 1);
        rankIs("300", 2);
        rankIs("311", 5);
        rankIs("2311", 5);
        rankIs("3020", 6);
        rankIs("3211", 13);
        rankIs("23211", 13);
        rankIs("30220", 14);
        rankIs("33111", 41);
    }

    private static void rankIs(String tree, int rank) {
        TreeLanguages x = new TreeLanguages();
        Due.push(x, tree);
        Due.due("rank() of " + tree, x.rank(), rank);
    }

    private static void statesOfNone() {
        Due.sentence("Promise 13: NONE if there is none");
        for (int m = 0; m < 2; m++) {
            int of = m;
            Refusal.in(Situation.NEW_OBJECT, "states(" + m + ")", NONE, x -> x.states(of));
            Refusal.in(Situation.EMPTIED, "states(" + m + ")", NONE, x -> x.states(of));
        }
        wrongAutomatonComesFirst();
    }

    private static void wrongAutomatonComesFirst() {
        Due.due("states(2) on an empty stack", new TreeLanguages().states(2), BAD_ARG);
        Due.due("states(-1) on an empty stack", new TreeLanguages().states(-1), BAD_ARG);
        Due.due("runs(2) on an empty stack", new TreeLanguages().runs(2), BAD_ARG);
        Due.due("runs(-1) on an empty stack", new TreeLanguages().runs(-1), BAD_ARG);
    }

    private static void statesAreNoneOrAll() {
        Due.sentence("Promise 13: The set of the states that runs of automaton m give the top");
        for (int m = 0; m < 2; m++) {
            for (String tree : new String[] {"0", "20", "300", "33030303000", "222222222220"}) {
                TreeLanguages x = new TreeLanguages();
                Due.push(x, tree);
                Due.due("states(" + m + ") without rules", x.states(m), 0);
                allowEverything(x, m);
                Due.due("states(" + m + ") with every rule", x.states(m), 15);
                Due.due("states of the other one", x.states(1 - m), 0);
                x.leafRule(m, 0, 0);
                Due.due("states(" + m + ") with no state for the leaf", x.states(m), 0);
            }
        }
    }

    private static void runsOfNone() {
        Due.sentence("Promise 14: NONE if there is none");
        for (int m = 0; m < 2; m++) {
            int of = m;
            Refusal.in(Situation.NEW_OBJECT, "runs(" + m + ")", NONE, x -> x.runs(of));
            Refusal.in(Situation.EMPTIED, "runs(" + m + ")", NONE, x -> x.runs(of));
        }
        wrongAutomatonComesFirst();
    }

    /** 4^n runs, when every leaf and node may have every state: the most that there can be. */
    private static void runsAreNoneOrAll() {
        Due.sentence("Promise 14: How many runs of automaton m there are");
        for (int m = 0; m < 2; m++) {
            TreeLanguages x = new TreeLanguages();
            x.leaf(0);
            Due.due("runs(" + m + ") without rules", x.runs(m), 0);
            allowEverything(x, m);
            for (int size = 1; size <= 12; size++) {
                Due.due("runs(" + m + ") of a chain of " + size, x.runs(m), 1 << 2 * size);
                x.one();
            }
            x.discard();
            Due.push(x, "33030303000");
            Due.due("runs(" + m + ") of 11 letters", x.runs(m), 1 << 22);
            x.one();
            Due.due("runs(" + m + ") of 12 letters", x.runs(m), 1 << 24);
            x.finals(m, 0);
            Due.due("runs(" + m + ") with no final state", x.runs(m), 0);
        }
    }

    private static void runsToAFinalStateAlone() {
        Due.sentence("Promise 14: that give its top a final state");
        TreeLanguages x = new TreeLanguages();
        Due.push(x, "20");
        x.leafRule(0, 0, 15);
        x.oneRule(0, 0, 9);
        x.oneRule(0, 3, 8);
        int[] toState = {1, 0, 0, 2};
        for (int q = 0; q < 4; q++) {
            x.finals(0, 1 << q);
            Due.due("runs(0) to the state " + q, x.runs(0), toState[q]);
        }
        x.finals(0, 6);
        Due.due("runs(0) to states that no run gives", x.runs(0), 0);
        Due.due("states(0) whatever is final", x.states(0), 9);
        x.finals(0, 15);
        Due.due("runs(0) to all states", x.runs(0), 3);
    }

    private static void onlyTheTopmostTreeIsRead() {
        Due.sentence("Promises 10 to 14: the topmost tree on the stack");
        TreeLanguages x = new TreeLanguages();
        x.leafRule(0, 0, 3);
        x.leafRule(0, 1, 4);
        x.finals(0, 15);
        Due.push(x, "301");
        Due.push(x, "0");
        Due.push(x, "1");
        Due.due("size()", x.size(), 1);
        Due.due("letter(0)", x.letter(0), 1);
        Due.due("letter(1)", x.letter(1), NONE);
        Due.due("rank()", x.rank(), 1);
        Due.due("states(0)", x.states(0), 4);
        Due.due("runs(0)", x.runs(0), 1);
    }

    private static void allowEverything(TreeLanguages x, int m) {
        x.leafRule(m, 0, 15);
        x.leafRule(m, 1, 15);
        for (int p = 0; p < 4; p++) {
            x.oneRule(m, p, 15);
        }
        for (int pair = 0; pair < 16; pair++) {
            x.twoRule(m, pair, 15);
        }
        x.finals(m, 15);
    }
}
