import java.util.List;
import java.util.function.ToIntFunction;

/** The edges that promises 15 to 17 name, a sentence at a time. */
public final class KindEdgesTest {
    private static final int BAD_ARG = -1;
    private static final int TOO_FEW = -3;
    private static final int NONE = -4;

    private static final int[] TREES_OF_SIZE = {0, 2, 2, 6, 14, 42, 122, 382};
    private static final String[] ONE_TREE_OF_SIZE = {"", "0", "20", "300", "2300", "33000", "233000", "3300300",
        "23300300"};

    public static void main(String[] args) {
        countOfAWrongSize();
        countOfTheLeastAndTheGreatestSize();
        countOfNoneAndOfAll();
        leastIsTheLeastSize();
        leastOfNone();
        leastPastTheGreatestSize();
        loadOfAWrongSize();
        loadOfNone();
        loadOfAKindThatNoTreeHas();
        loadPastTheLastOfAKind();
        wrongSizeComesBeforeNone();
        loadOfTheFirstAndTheLast();
        loadPutsOneTreeThere();
        loadOnAFullStack();
        loadOfTheSameTreeAgain();
        Due.end();
    }

    private static void countOfAWrongSize() {
        Due.sentence("Promise 15: BAD_ARG if n is not 1 to 7");
        for (int n : Refusal.outside(1, 7)) {
            for (int kind = 0; kind < 7; kind++) {
                int of = kind;
                Refusal.everywhere("count(" + kind + ", " + n + ")", BAD_ARG, x -> x.count(of, n));
            }
        }
    }

    private static void countOfTheLeastAndTheGreatestSize() {
        Due.sentence("Promise 15: How many trees of this kind have size n");
        TreeLanguages x = onlyChains(0);
        int[] due = {2, 0, 0, 2, 2, 0, 2};
        for (int kind = 0; kind < 7; kind++) {
            Due.due("count(" + kind + ", 1)", x.count(kind, 1), due[kind]);
            Due.due("count(" + kind + ", 0)", x.count(kind, 0), BAD_ARG);
            Due.due("count(" + kind + ", 8)", x.count(kind, 8), BAD_ARG);
        }
        Due.due("count(0, 7)", x.count(0, 7), 2);
        Due.due("count(5, 7)", x.count(5, 7), 380);
        Due.due("count(6, 7)", x.count(6, 7), 382);
    }

    private static void countOfNoneAndOfAll() {
        Due.sentence("Promise 15: How many: none and all");
        for (int n = 1; n <= 7; n++) {
            TreeLanguages x = new TreeLanguages();
            for (int kind = 0; kind < 5; kind++) {
                Due.due("count(" + kind + ", " + n + ") without rules", x.count(kind, n), 0);
            }
            Due.due("count(5, " + n + ") without rules", x.count(5, n), TREES_OF_SIZE[n]);
            acceptEverything(x, 0);
            acceptEverything(x, 1);
            for (int kind = 0; kind < 4; kind++) {
                Due.due("count(" + kind + ", " + n + ") with all", x.count(kind, n), TREES_OF_SIZE[n]);
            }
            Due.due("count(4, " + n + ") with all", x.count(4, n), 0);
            Due.due("count(5, " + n + ") with all", x.count(5, n), 0);
            Due.due("count(6, " + n + ") with all", x.count(6, n), TREES_OF_SIZE[n]);
        }
    }

    private static void leastIsTheLeastSize() {
        Due.sentence("Promise 16: The least size from 1 to 7 that some tree of this kind has");
        for (int m = 0; m < 2; m++) {
            for (int size = 1; size <= 7; size++) {
                TreeLanguages x = onlyOneTree(m, size);
                String tree = ONE_TREE_OF_SIZE[size];
                Due.due("least(" + m + ") of " + tree, x.least(m), size);
                Due.due("least(2) of " + tree, x.least(2), NONE);
                Due.due("least(3) of " + tree, x.least(3), size);
                Due.due("least(4) of " + tree, x.least(4), m == 0 ? size : NONE);
                Due.due("least(5) of " + tree, x.least(5), 1);
                Due.due("least(6) of " + tree, x.least(6), 1);
                loaded(x, m, size, 0, tree);
                Due.due("load(" + m + ", " + size + ", 1)", x.load(m, size, 1), NONE);
            }
        }
    }

    private static void leastOfNone() {
        Due.sentence("Promise 16: NONE if there is none");
        for (int kind = 0; kind < 5; kind++) {
            int of = kind;
            whereNoneIsAccepted("least(" + kind + ")", x -> x.least(of));
        }
        TreeLanguages x = new TreeLanguages();
        acceptEverything(x, 0);
        Due.due("least(5) when all are accepted", x.least(5), NONE);
        Due.due("least(4) when 0 accepts all and 1 none", x.least(4), 1);
        acceptEverything(x, 1);
        Due.due("least(4) when both accept all", x.least(4), NONE);
        Due.due("least(5) when both accept all", x.least(5), NONE);
        Due.due("least(2) when both accept all", x.least(2), 1);
    }

    private static void leastPastTheGreatestSize() {
        Due.sentence("Promise 16: from 1 to 7");
        for (int m = 0; m < 2; m++) {
            TreeLanguages x = onlyOneTree(m, 8);
            Due.push(x, ONE_TREE_OF_SIZE[8]);
            Due.due("runs(" + m + ") of a tree of size 8", x.runs(m), 1);
            Due.due("least(" + m + ") of a tree of size 8", x.least(m), NONE);
            Due.due("least(3) of a tree of size 8", x.least(3), NONE);
            for (int n = 1; n <= 7; n++) {
                Due.due("count(" + m + ", " + n + ")", x.count(m, n), 0);
                Due.due("load(" + m + ", " + n + ", 0)", x.load(m, n, 0), NONE);
            }
            Due.due("size()", x.size(), 8);
        }
    }

    private static void loadOfAWrongSize() {
        Due.sentence("Promise 17: BAD_ARG if n is not 1 to 7");
        for (int n : Refusal.outside(1, 7)) {
            for (int kind = 0; kind < 7; kind++) {
                int of = kind;
                Refusal.everywhere("load(" + kind + ", " + n + ", 0)", BAD_ARG, x -> x.load(of, n, 0));
            }
        }
    }

    private static void loadOfNone() {
        Due.sentence("Promise 17: NONE if there is none: fewer than k come before");
        for (int n = 1; n <= 7; n++) {
            int size = n;
            for (int k : Refusal.outside(0, TREES_OF_SIZE[n] - 1)) {
                Refusal.everywhere("load(6, " + n + ", " + k + ")", NONE, x -> x.load(6, size, k));
            }
        }
    }

    private static void loadOfAKindThatNoTreeHas() {
        Due.sentence("Promise 17: NONE if there is none: no tree of the kind");
        for (int kind = 0; kind < 5; kind++) {
            int of = kind;
            for (int n = 1; n <= 7; n++) {
                int size = n;
                for (int k : new int[] {0, 1, -1, Integer.MIN_VALUE, Integer.MAX_VALUE}) {
                    String call = "load(" + kind + ", " + n + ", " + k + ")";
                    whereNoneIsAccepted(call, x -> x.load(of, size, k));
                }
            }
        }
    }

    /** Rules make some trees of the kind and others not; the number of the kind is the edge for k. */
    private static void loadPastTheLastOfAKind() {
        Due.sentence("Promise 17: NONE if there is none: as many as there are come before");
        for (Situation situation : Situation.values()) {
            for (int kind = 0; kind < 7; kind++) {
                for (int n = 1; n <= 7; n++) {
                    int of = kind;
                    int size = n;
                    int past = situation.reach().count(kind, n);
                    String call = "load(" + kind + ", " + n + ", ";
                    Refusal.in(situation, call + past + ")", NONE, x -> x.load(of, size, past));
                    if (past > 0) {
                        int last = past - 1;
                        Due.due(call + last + ") in " + situation, situation.reach().load(kind, n, last), 0);
                    }
                }
            }
        }
    }

    private static void wrongSizeComesBeforeNone() {
        Due.sentence("Promise 17: BAD_ARG if n is not 1 to 7; NONE if there is none");
        for (int k : new int[] {-1, 382, Integer.MIN_VALUE, Integer.MAX_VALUE}) {
            for (int n : new int[] {0, 8}) {
                Refusal.everywhere("load(6, " + n + ", " + k + ")", BAD_ARG, x -> x.load(6, n, k));
            }
            Refusal.everywhere("load(7, 1, " + k + ")", BAD_ARG, x -> x.load(7, 1, k));
            Refusal.everywhere("load(-1, 7, " + k + ")", BAD_ARG, x -> x.load(-1, 7, k));
        }
    }

    private static void loadOfTheFirstAndTheLast() {
        Due.sentence("Promise 17: that has k such trees before it");
        for (int n = 1; n <= 7; n++) {
            TreeLanguages x = onlyChains(0);
            List<String> all = Model.treesOfSize(n);
            int last = all.size() - 1;
            loaded(x, 6, n, 0, all.get(0));
            loaded(x, 6, n, last, all.get(last));
            Due.due("load past the last one of size " + n, x.load(6, n, last + 1), NONE);
            loaded(x, 0, n, 0, chain(n, '0'));
            loaded(x, 0, n, 1, chain(n, '1'));
            Due.due("load(0, " + n + ", 2)", x.load(0, n, 2), NONE);
            Due.due("load(0, " + n + ", -1)", x.load(0, n, -1), NONE);
            Due.holds("the tree is there still", Due.written(x).equals(chain(n, '1')));
            if (n > 2) {
                loaded(x, 5, n, 0, all.get(2));
                loaded(x, 5, n, last - 2, all.get(last));
            }
            Due.due("load(5, " + n + ", past)", x.load(5, n, last - 1), NONE);
        }
    }

    private static void loadPutsOneTreeThere() {
        Due.sentence("Promise 17: The stack becomes the one tree");
        for (Situation situation : Situation.values()) {
            for (int n = 1; n <= 7; n++) {
                TreeLanguages x = situation.reach();
                loaded(x, 6, n, 1, Model.treesOfSize(n).get(1));
                Due.due("two() after load in " + situation, x.two(), TOO_FEW);
                Due.due("leaf(0) after load in " + situation, x.leaf(0), 2);
                Due.due("discard() after load in " + situation, x.discard(), 2);
            }
        }
    }

    private static void loadOnAFullStack() {
        Due.sentence("Promise 17: Otherwise 0");
        for (Situation situation : Situation.values()) {
            if (situation.isFull()) {
                Due.due("load(6, 7, 381) in " + situation, situation.reach().load(6, 7, 381), 0);
                Due.due("load(6, 1, 0) in " + situation, situation.reach().load(6, 1, 0), 0);
            }
        }
    }

    private static void loadOfTheSameTreeAgain() {
        Due.sentence("Promise 17: Otherwise 0, the same tree again");
        TreeLanguages x = new TreeLanguages();
        for (int i = 0; i < 20; i++) {
            loaded(x, 6, 7, 381, "3331111");
            Due.due("leaf(0)", x.leaf(0), 2);
        }
        Due.due("discard()", x.discard(), 2);
    }

    private static void whereNoneIsAccepted(String call, ToIntFunction<TreeLanguages> made) {
        for (Situation situation : Situation.values()) {
            if (situation.acceptsNone()) {
                Refusal.in(situation, call, NONE, made);
            }
        }
    }

    private static void loaded(TreeLanguages x, int kind, int n, int k, String tree) {
        Due.due("load(" + kind + ", " + n + ", " + k + ")", x.load(kind, n, k), 0);
        String written = Due.written(x);
        Due.holds(tree + " was loaded, not " + written, written.equals(tree));
    }

    private static String chain(int n, char leaf) {
        return "2".repeat(n - 1) + leaf;
    }

    /** Automaton m accepts those trees alone that have no letter 3: two of each size, and the first ones. */
    private static TreeLanguages onlyChains(int m) {
        TreeLanguages x = new TreeLanguages();
        x.leafRule(m, 0, 2);
        x.leafRule(m, 1, 2);
        x.oneRule(m, 1, 2);
        x.finals(m, 2);
        return x;
    }

    /** Automaton m accepts one tree alone, that of ONE_TREE_OF_SIZE. */
    private static TreeLanguages onlyOneTree(int m, int size) {
        TreeLanguages x = new TreeLanguages();
        x.leafRule(m, 0, 1);
        if (size == 2) {
            x.oneRule(m, 0, 2);
        } else if (size > 2) {
            x.twoRule(m, 0 + 4 * 0, 2);
        }
        if (size == 4) {
            x.oneRule(m, 1, 4);
        } else if (size == 5 || size == 6) {
            x.twoRule(m, 1 + 4 * 0, 4);
        } else if (size > 6) {
            x.twoRule(m, 1 + 4 * 1, 4);
        }
        if (size == 6 || size == 8) {
            x.oneRule(m, 2, 8);
        }
        x.finals(m, size == 1 ? 1 : size < 4 ? 2 : size == 6 || size == 8 ? 8 : 4);
        return x;
    }

    private static void acceptEverything(TreeLanguages x, int m) {
        x.leafRule(m, 0, 1);
        x.leafRule(m, 1, 1);
        x.oneRule(m, 0, 1);
        x.twoRule(m, 0, 1);
        x.finals(m, 1);
    }
}
