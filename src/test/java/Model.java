import java.util.ArrayList;
import java.util.List;

/**
 * The document told once more, as plainly as it can be and without the program's ways:
 * a tree is the text of its letters, all trees of a size are listed and sorted by the
 * document's order, and acceptance is asked of each tree by itself.
 */
final class Model {
    static final int BAD_ARG = -1;
    static final int FULL = -2;
    static final int TOO_FEW = -3;
    static final int NONE = -4;

    private static final List<List<String>> TREES = listTrees(12);

    private final int[][] leafSets = new int[2][2];
    private final int[][] oneSets = new int[2][4];
    private final int[][][] twoSets = new int[2][4][4];
    private final int[] finalSets = new int[2];
    private final List<String> stack = new ArrayList<>();
    private int made = 0;

    int leafRule(int m, int letter, int set) {
        if (outside(m, 1) || outside(letter, 1) || outside(set, 15)) {
            return BAD_ARG;
        }
        int before = leafSets[m][letter];
        leafSets[m][letter] = set;
        return before;
    }

    int oneRule(int m, int p, int set) {
        if (outside(m, 1) || outside(p, 3) || outside(set, 15)) {
            return BAD_ARG;
        }
        int before = oneSets[m][p];
        oneSets[m][p] = set;
        return before;
    }

    int twoRule(int m, int pair, int set) {
        if (outside(m, 1) || outside(pair, 15) || outside(set, 15)) {
            return BAD_ARG;
        }
        int q = pair / 4;
        int p = pair - 4 * q;
        int before = twoSets[m][p][q];
        twoSets[m][p][q] = set;
        return before;
    }

    int finals(int m, int set) {
        if (outside(m, 1) || outside(set, 15)) {
            return BAD_ARG;
        }
        int before = finalSets[m];
        finalSets[m] = set;
        return before;
    }

    int leaf(int letter) {
        if (outside(letter, 1)) {
            return BAD_ARG;
        }
        if (made == 12) {
            return FULL;
        }
        return push("" + letter);
    }

    int one() {
        if (made == 12) {
            return FULL;
        }
        if (stack.isEmpty()) {
            return TOO_FEW;
        }
        return push("2" + stack.remove(stack.size() - 1));
    }

    int two() {
        if (made == 12) {
            return FULL;
        }
        if (stack.size() < 2) {
            return TOO_FEW;
        }
        String second = stack.remove(stack.size() - 1);
        String first = stack.remove(stack.size() - 1);
        return push("3" + first + second);
    }

    int discard() {
        int before = stack.size();
        stack.clear();
        made = 0;
        return before;
    }

    int size() {
        return stack.isEmpty() ? NONE : top().length();
    }

    int letter(int i) {
        return stack.isEmpty() || i < 0 || i >= top().length() ? NONE : top().charAt(i) - '0';
    }

    int rank() {
        return stack.isEmpty() ? NONE : place(top());
    }

    int states(int m) {
        if (outside(m, 1)) {
            return BAD_ARG;
        }
        if (stack.isEmpty()) {
            return NONE;
        }
        int set = 0;
        for (int q = 0; q < 4; q++) {
            set += runsTo(m, top(), q) > 0 ? 1 << q : 0;
        }
        return set;
    }

    int runs(int m) {
        if (outside(m, 1)) {
            return BAD_ARG;
        }
        return stack.isEmpty() ? NONE : finalRuns(m, top());
    }

    int count(int kind, int n) {
        return outside(kind, 6) || outside(n - 1L, 6) ? BAD_ARG : ofKind(kind, n).size();
    }

    int least(int kind) {
        if (outside(kind, 6)) {
            return BAD_ARG;
        }
        for (int n = 1; n <= 7; n++) {
            if (!ofKind(kind, n).isEmpty()) {
                return n;
            }
        }
        return NONE;
    }

    int load(int kind, int n, int k) {
        if (outside(kind, 6) || outside(n - 1L, 6)) {
            return BAD_ARG;
        }
        List<String> some = ofKind(kind, n);
        if (k < 0 || k >= some.size()) {
            return NONE;
        }
        stack.clear();
        stack.add(some.get(k));
        made = n;
        return 0;
    }

    static List<String> treesOfSize(int n) {
        return TREES.get(n);
    }

    /** The order of the document. */
    static int order(String a, String b) {
        if (a.length() != b.length()) {
            return a.length() - b.length();
        }
        if (a.charAt(0) != b.charAt(0)) {
            return a.charAt(0) - b.charAt(0);
        }
        if (a.charAt(0) == '2') {
            return order(a.substring(1), b.substring(1));
        }
        if (a.charAt(0) == '3') {
            int byFirst = order(first(a), first(b));
            return byFirst != 0 ? byFirst : order(second(a), second(b));
        }
        return 0;
    }

    /** The letters of a tree, those of the children of a node before its own. */
    static String childrenFirst(String tree) {
        switch (tree.charAt(0)) {
            case '3':
                return childrenFirst(first(tree)) + childrenFirst(second(tree)) + "3";
            case '2':
                return childrenFirst(tree.substring(1)) + "2";
            default:
                return tree.substring(0, 1);
        }
    }

    static String first(String tree) {
        return tree.substring(1, endOfTree(tree, 1));
    }

    static String second(String tree) {
        return tree.substring(endOfTree(tree, 1));
    }

    private static int endOfTree(String letters, int from) {
        int due = 1;
        int at = from;
        while (due > 0) {
            char letter = letters.charAt(at);
            due += letter == '3' ? 1 : letter == '2' ? 0 : -1;
            at++;
        }
        return at;
    }

    private static List<List<String>> listTrees(int greatest) {
        List<List<String>> trees = new ArrayList<>();
        trees.add(List.of());
        trees.add(List.of("0", "1"));
        for (int n = 2; n <= greatest; n++) {
            List<String> some = new ArrayList<>();
            // Put together out of order on purpose: the sorting alone tells the order.
            for (int s = n - 2; s >= 1; s--) {
                for (String b : trees.get(n - 1 - s)) {
                    for (String a : trees.get(s)) {
                        some.add("3" + a + b);
                    }
                }
            }
            for (String child : trees.get(n - 1)) {
                some.add("2" + child);
            }
            some.sort(Model::order);
            trees.add(some);
        }
        return trees;
    }

    private static int place(String tree) {
        List<String> some = TREES.get(tree.length());
        int low = 0;
        int high = some.size() - 1;
        while (low < high) {
            int middle = (low + high) / 2;
            if (order(some.get(middle), tree) < 0) {
                low = middle + 1;
            } else {
                high = middle;
            }
        }
        return low;
    }

    private int push(String tree) {
        stack.add(tree);
        made++;
        return stack.size();
    }

    private String top() {
        return stack.get(stack.size() - 1);
    }

    private List<String> ofKind(int kind, int n) {
        List<String> some = new ArrayList<>();
        for (String tree : TREES.get(n)) {
            boolean zero = finalRuns(0, tree) > 0;
            boolean one = finalRuns(1, tree) > 0;
            boolean[] is = {zero, one, zero && one, zero || one, zero && !one, !zero && !one, true};
            if (is[kind]) {
                some.add(tree);
            }
        }
        return some;
    }

    private int finalRuns(int m, String tree) {
        int sum = 0;
        for (int q = 0; q < 4; q++) {
            sum += (finalSets[m] & 1 << q) != 0 ? runsTo(m, tree, q) : 0;
        }
        return sum;
    }

    /** How many runs give the top of the tree the state q. */
    private int runsTo(int m, String tree, int q) {
        int bit = 1 << q;
        int sum = 0;
        switch (tree.charAt(0)) {
            case '3':
                for (int a = 0; a < 4; a++) {
                    for (int b = 0; b < 4; b++) {
                        if ((twoSets[m][a][b] & bit) != 0) {
                            int firstRuns = runsTo(m, first(tree), a);
                            sum += firstRuns == 0 ? 0 : firstRuns * runsTo(m, second(tree), b);
                        }
                    }
                }
                return sum;
            case '2':
                for (int a = 0; a < 4; a++) {
                    sum += (oneSets[m][a] & bit) != 0 ? runsTo(m, tree.substring(1), a) : 0;
                }
                return sum;
            default:
                return (leafSets[m][tree.charAt(0) - '0'] & bit) != 0 ? 1 : 0;
        }
    }

    private static boolean outside(long value, int greatest) {
        return value < 0 || value > greatest;
    }
}
