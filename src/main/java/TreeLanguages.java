/** Two automata that read trees, and the trees that they accept. */
public final class TreeLanguages {
    public static final int BAD_ARG = -1;
    public static final int FULL = -2;
    public static final int TOO_FEW = -3;
    public static final int NONE = -4;

    private static final int AUTOMATA = 2;
    private static final int STATES = 4;
    private static final int PAIRS = STATES * STATES;
    private static final int ALL_STATES = 15;
    private static final int LEAF_LETTERS = 2;
    private static final int ONE_LETTER = 2;
    private static final int TWO_LETTER = 3;
    private static final int KINDS = 7;

    private static final int MOST_LETTERS = 12;
    private static final int GREATEST_LISTED_SIZE = 7;
    private static final int LISTED_TREES = 570;
    private static final int MOST_TREES = LISTED_TREES + MOST_LETTERS;

    private final int[] leafSets = new int[AUTOMATA * LEAF_LETTERS];
    private final int[] oneSets = new int[AUTOMATA * STATES];
    private final int[] twoSets = new int[AUTOMATA * PAIRS];
    private final int[] finalSets = new int[AUTOMATA];

    // A tree is known by its number. The numbers below LISTED_TREES are all trees
    // up to the greatest listed size, in their order; those from there on are made
    // by calls. A child's number is always less than its parent's, so that one pass
    // from low to high numbers reads every tree after its children.
    private final int[] letterOf = new int[MOST_TREES];
    private final int[] firstOf = new int[MOST_TREES];
    private final int[] secondOf = new int[MOST_TREES];
    private final int[] sizeOf = new int[MOST_TREES];
    private final int[] rankOf = new int[MOST_TREES];
    private int trees = 0;

    // Ranks ask only for the sizes that a child can have, so MOST_LETTERS itself is left out.
    private final int[] treesOfSize = new int[MOST_LETTERS];

    // The trees of size n have the numbers from startOfSize[n] to startOfSize[n + 1] - 1.
    private final int[] startOfSize = new int[GREATEST_LISTED_SIZE + 2];

    // How many runs give a tree's top a state; no tree of 12 letters has more than 4^12.
    private final int[] runsOf = new int[AUTOMATA * MOST_TREES * STATES];

    private final int[] stack = new int[MOST_LETTERS];
    private int depth = 0;

    // Not the same as the trees made by calls: a loaded tree counts with all its letters,
    // though it is a listed one.
    private int made = 0;

    public TreeLanguages() {
        countTreesOfSizes();
        listTrees();
    }

    public int leafRule(int m, int letter, int set) {
        if (!isAutomaton(m) || !isLeafLetter(letter) || !isSet(set)) {
            return BAD_ARG;
        }
        return replaceSet(leafSets, m * LEAF_LETTERS + letter, set);
    }

    public int oneRule(int m, int p, int set) {
        if (!isAutomaton(m) || p < 0 || p >= STATES || !isSet(set)) {
            return BAD_ARG;
        }
        return replaceSet(oneSets, m * STATES + p, set);
    }

    public int twoRule(int m, int pair, int set) {
        if (!isAutomaton(m) || pair < 0 || pair >= PAIRS || !isSet(set)) {
            return BAD_ARG;
        }
        return replaceSet(twoSets, m * PAIRS + pair, set);
    }

    public int finals(int m, int set) {
        if (!isAutomaton(m) || !isSet(set)) {
            return BAD_ARG;
        }
        return replaceSet(finalSets, m, set);
    }

    public int leaf(int letter) {
        if (!isLeafLetter(letter)) {
            return BAD_ARG;
        }
        if (made >= MOST_LETTERS) {
            return FULL;
        }
        addLeaf(letter);
        return pushAddedTree();
    }

    public int one() {
        if (made >= MOST_LETTERS) {
            return FULL;
        }
        if (depth < 1) {
            return TOO_FEW;
        }
        depth = depth - 1;
        addOne(stack[depth]);
        return pushAddedTree();
    }

    public int two() {
        if (made >= MOST_LETTERS) {
            return FULL;
        }
        if (depth < 2) {
            return TOO_FEW;
        }
        depth = depth - 2;
        addTwo(stack[depth], stack[depth + 1]);
        return pushAddedTree();
    }

    public int discard() {
        int before = depth;
        emptyStack();
        return before;
    }

    public int size() {
        if (depth == 0) {
            return NONE;
        }
        return sizeOf[stack[depth - 1]];
    }

    public int letter(int i) {
        if (depth == 0) {
            return NONE;
        }
        int top = stack[depth - 1];
        if (i < 0 || i >= sizeOf[top]) {
            return NONE;
        }
        return letterOf[subtreeAt(top, i)];
    }

    public int rank() {
        if (depth == 0) {
            return NONE;
        }
        return rankOf[stack[depth - 1]];
    }

    public int states(int m) {
        if (!isAutomaton(m)) {
            return BAD_ARG;
        }
        if (depth == 0) {
            return NONE;
        }
        countRuns(m, trees);
        return statesOfTop(m, stack[depth - 1]);
    }

    public int runs(int m) {
        if (!isAutomaton(m)) {
            return BAD_ARG;
        }
        if (depth == 0) {
            return NONE;
        }
        countRuns(m, trees);
        return finalRuns(m, stack[depth - 1]);
    }

    public int count(int kind, int n) {
        if (!isKind(kind) || !isListedSize(n)) {
            return BAD_ARG;
        }
        readListedTrees();
        return countOfKind(kind, n);
    }

    public int least(int kind) {
        if (!isKind(kind)) {
            return BAD_ARG;
        }
        readListedTrees();
        for (int n = 1; n <= GREATEST_LISTED_SIZE; n++) {
            if (countOfKind(kind, n) > 0) {
                return n;
            }
        }
        return NONE;
    }

    public int load(int kind, int n, int k) {
        if (!isKind(kind) || !isListedSize(n)) {
            return BAD_ARG;
        }
        readListedTrees();
        int tree = findOfKind(kind, n, k);
        if (tree == NONE) {
            return NONE;
        }
        emptyStack();
        made = n;
        pushTree(tree);
        return 0;
    }

    private boolean isAutomaton(int m) {
        return m >= 0 && m < AUTOMATA;
    }

    private boolean isLeafLetter(int letter) {
        return letter >= 0 && letter < LEAF_LETTERS;
    }

    private boolean isSet(int set) {
        return set >= 0 && set <= ALL_STATES;
    }

    private boolean isKind(int kind) {
        return kind >= 0 && kind < KINDS;
    }

    private boolean isListedSize(int n) {
        return n >= 1 && n <= GREATEST_LISTED_SIZE;
    }

    private int replaceSet(int[] sets, int index, int set) {
        int before = sets[index];
        sets[index] = set;
        return before;
    }

    private void countTreesOfSizes() {
        treesOfSize[1] = LEAF_LETTERS;
        for (int n = 2; n < MOST_LETTERS; n++) {
            treesOfSize[n] = treesOfSize[n - 1] + treesWithFirstBelow(n, n - 1);
        }
    }

    /** How many trees of size n with letter 3 have a first child of a size below the bound. */
    private int treesWithFirstBelow(int n, int bound) {
        int sum = 0;
        for (int first = 1; first < bound; first++) {
            sum = sum + treesOfSize[first] * treesOfSize[n - 1 - first];
        }
        return sum;
    }

    private void listTrees() {
        startOfSize[1] = 0;
        for (int letter = 0; letter < LEAF_LETTERS; letter++) {
            addLeaf(letter);
        }
        startOfSize[2] = trees;
        for (int n = 2; n <= GREATEST_LISTED_SIZE; n++) {
            listOneTrees(n);
            for (int first = 1; first < n - 1; first++) {
                listTwoTrees(first, n - 1 - first);
            }
            startOfSize[n + 1] = trees;
        }
    }

    private void listOneTrees(int n) {
        int end = startOfSize[n];
        for (int child = startOfSize[n - 1]; child < end; child++) {
            addOne(child);
        }
    }

    private void listTwoTrees(int firstSize, int secondSize) {
        int firstEnd = startOfSize[firstSize + 1];
        int secondEnd = startOfSize[secondSize + 1];
        for (int first = startOfSize[firstSize]; first < firstEnd; first++) {
            for (int second = startOfSize[secondSize]; second < secondEnd; second++) {
                addTwo(first, second);
            }
        }
    }

    private void addLeaf(int letter) {
        addTree(letter, 0, 0, 1, letter);
    }

    private void addOne(int child) {
        addTree(ONE_LETTER, child, 0, 1 + sizeOf[child], rankOf[child]);
    }

    private void addTwo(int first, int second) {
        int n = 1 + sizeOf[first] + sizeOf[second];
        int withLetterTwo = treesOfSize[n - 1];
        int withSmallerFirst = treesWithFirstBelow(n, sizeOf[first]);
        int withLesserFirst = rankOf[first] * treesOfSize[sizeOf[second]];
        int rank = withLetterTwo + withSmallerFirst + withLesserFirst + rankOf[second];
        addTree(TWO_LETTER, first, second, n, rank);
    }

    private void addTree(int letter, int first, int second, int size, int rank) {
        letterOf[trees] = letter;
        firstOf[trees] = first;
        secondOf[trees] = second;
        sizeOf[trees] = size;
        rankOf[trees] = rank;
        trees = trees + 1;
    }

    private int pushAddedTree() {
        pushTree(trees - 1);
        made = made + 1;
        return depth;
    }

    private void pushTree(int tree) {
        stack[depth] = tree;
        depth = depth + 1;
    }

    private void emptyStack() {
        depth = 0;
        made = 0;
        trees = LISTED_TREES;
    }

    /** The subtree whose top is letter number i of the tree as it is written. */
    private int subtreeAt(int tree, int i) {
        int at = tree;
        int left = i;
        for (int step = 0; step < MOST_LETTERS && left > 0; step++) {
            int first = firstOf[at];
            left = left - 1;
            if (letterOf[at] == TWO_LETTER && left >= sizeOf[first]) {
                left = left - sizeOf[first];
                at = secondOf[at];
            } else {
                at = first;
            }
        }
        return at;
    }

    private void readListedTrees() {
        countRuns(0, LISTED_TREES);
        countRuns(1, LISTED_TREES);
    }

    private void countRuns(int m, int end) {
        for (int tree = 0; tree < end; tree++) {
            int row = rowOfRuns(m, tree);
            clearRuns(row);
            if (letterOf[tree] == TWO_LETTER) {
                countTwoRuns(m, tree, row);
            } else if (letterOf[tree] == ONE_LETTER) {
                countOneRuns(m, tree, row);
            } else {
                addRuns(row, leafSets[m * LEAF_LETTERS + letterOf[tree]], 1);
            }
        }
    }

    private int rowOfRuns(int m, int tree) {
        return (m * MOST_TREES + tree) * STATES;
    }

    private void clearRuns(int row) {
        for (int q = 0; q < STATES; q++) {
            runsOf[row + q] = 0;
        }
    }

    private void addRuns(int row, int set, int more) {
        for (int q = 0; q < STATES; q++) {
            if ((set >> q & 1) != 0) {
                runsOf[row + q] = runsOf[row + q] + more;
            }
        }
    }

    private void countOneRuns(int m, int tree, int row) {
        int childRow = rowOfRuns(m, firstOf[tree]);
        for (int p = 0; p < STATES; p++) {
            addRuns(row, oneSets[m * STATES + p], runsOf[childRow + p]);
        }
    }

    private void countTwoRuns(int m, int tree, int row) {
        int firstRow = rowOfRuns(m, firstOf[tree]);
        int secondRow = rowOfRuns(m, secondOf[tree]);
        for (int pair = 0; pair < PAIRS; pair++) {
            int p = pair % STATES;
            int q = pair / STATES;
            addRuns(row, twoSets[m * PAIRS + pair], runsOf[firstRow + p] * runsOf[secondRow + q]);
        }
    }

    private int statesOfTop(int m, int tree) {
        int row = rowOfRuns(m, tree);
        int set = 0;
        for (int q = 0; q < STATES; q++) {
            if (runsOf[row + q] > 0) {
                set = set | 1 << q;
            }
        }
        return set;
    }

    private int finalRuns(int m, int tree) {
        int row = rowOfRuns(m, tree);
        int sum = 0;
        for (int q = 0; q < STATES; q++) {
            if ((finalSets[m] >> q & 1) != 0) {
                sum = sum + runsOf[row + q];
            }
        }
        return sum;
    }

    private boolean isOfKind(int kind, int tree) {
        boolean by0 = finalRuns(0, tree) > 0;
        boolean by1 = finalRuns(1, tree) > 0;
        switch (kind) {
            case 0:
                return by0;
            case 1:
                return by1;
            case 2:
                return by0 && by1;
            case 3:
                return by0 || by1;
            case 4:
                return by0 && !by1;
            case 5:
                return !by0 && !by1;
            default:
                return true;
        }
    }

    private int countOfKind(int kind, int n) {
        int found = 0;
        int end = startOfSize[n + 1];
        for (int tree = startOfSize[n]; tree < end; tree++) {
            if (isOfKind(kind, tree)) {
                found = found + 1;
            }
        }
        return found;
    }

    /** The tree of this kind and size that has k such trees before it, or NONE. */
    private int findOfKind(int kind, int n, int k) {
        int before = 0;
        int end = startOfSize[n + 1];
        for (int tree = startOfSize[n]; tree < end; tree++) {
            if (isOfKind(kind, tree)) {
                if (before == k) {
                    return tree;
                }
                before = before + 1;
            }
        }
        return NONE;
    }
}
