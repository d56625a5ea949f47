/** States of an object that the tests of edges start from; each is reached anew when it is wanted. */
enum Situation {
    NEW_OBJECT(false, ""),
    TREES_WITHOUT_RULES(false, "02" + "013" + "1"),
    EMPTIED(true, "010101010101d"),
    ONE_LEAF(true, "1"),
    THREE_TREES(true, "02" + "013" + "1"),
    ONE_TREE_OF_11(true, "12222222222"),
    TWO_TREES_OF_11(true, "0" + "1222222222"),
    ONE_TREE_OF_12(true, "122222222222"),
    TWELVE_LEAVES(true, "010101010101"),
    LOADED(true, "01" + "l"),
    LOADED_AND_FULL(true, "01" + "l" + "01011"),
    NONE_FINAL(true, "02" + "013" + "1" + "f"),
    NONE_FINAL_AND_FULL(true, "01" + "l" + "01011" + "f");

    static final int LOADED_SIZE = 7;

    private final boolean hasRules;
    private final String steps;

    /** The steps: a letter is the call that makes it, children first; d is discard, l is load, f takes the final states away. */
    Situation(boolean hasRules, String steps) {
        this.hasRules = hasRules;
        this.steps = steps;
    }

    TreeLanguages reach() {
        TreeLanguages x = new TreeLanguages();
        if (hasRules) {
            setRules(x);
        }
        takeAll(x, steps);
        return x;
    }

    static void takeAll(TreeLanguages x, String steps) {
        for (int i = 0; i < steps.length(); i++) {
            int answer = step(x, steps.charAt(i));
            if (answer < 0) {
                Due.due("step " + i + " of " + steps, answer, 0);
            }
        }
    }

    boolean isEmpty() {
        return this == NEW_OBJECT || this == EMPTIED;
    }

    boolean isFull() {
        return this == ONE_TREE_OF_12 || this == TWELVE_LEAVES || this == LOADED_AND_FULL
                || this == NONE_FINAL_AND_FULL;
    }

    boolean hasTwoTrees() {
        return this == TREES_WITHOUT_RULES || this == THREE_TREES || this == TWO_TREES_OF_11
                || this == TWELVE_LEAVES || this == LOADED_AND_FULL || this == NONE_FINAL
                || this == NONE_FINAL_AND_FULL;
    }

    /** Whether neither automaton accepts a tree. */
    boolean acceptsNone() {
        return !hasRules || steps.endsWith("f");
    }

    /** Rules that differ between neighbours and between the automata, so that a slip shows. */
    private static void setRules(TreeLanguages x) {
        for (int m = 0; m < 2; m++) {
            for (int letter = 0; letter < 2; letter++) {
                x.leafRule(m, letter, 1 + letter + 4 * m);
            }
            for (int p = 0; p < 4; p++) {
                x.oneRule(m, p, 3 + 5 * p + 7 * m & 15);
            }
            for (int pair = 0; pair < 16; pair++) {
                x.twoRule(m, pair, 3 + 7 * pair + 6 * m & 15);
            }
            x.finals(m, 5 + 4 * m);
        }
    }

    private static int step(TreeLanguages x, char what) {
        switch (what) {
            case 'd':
                return x.discard();
            case 'l':
                return x.load(6, LOADED_SIZE, 200);
            case 'f':
                return x.finals(0, 0) + x.finals(1, 0);
            case '3':
                return x.two();
            case '2':
                return x.one();
            default:
                return x.leaf(what - '0');
        }
    }
}
