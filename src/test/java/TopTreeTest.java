import java.util.List;

/** Promises 10 to 12: size, letter, rank. */
public final class TopTreeTest {
    public static void main(String[] args) {
        emptyStack();
        everySmallTree();
        someGreatTrees();
        theTopmostTreeIsTold();
        Due.end();
    }

    private static void emptyStack() {
        TreeLanguages x = new TreeLanguages();
        Due.due("size()", x.size(), -4);
        Due.due("rank()", x.rank(), -4);
        for (int i : new int[] {0, 1, -1, Integer.MIN_VALUE, Integer.MAX_VALUE}) {
            Due.due("letter(" + i + ")", x.letter(i), -4);
        }
        x.leaf(0);
        x.discard();
        Due.due("size() after discard", x.size(), -4);
        Due.due("rank() after discard", x.rank(), -4);
        Due.due("letter(0) after discard", x.letter(0), -4);
    }

    private static void everySmallTree() {
        for (int n = 1; n <= 7; n++) {
            List<String> trees = Model.treesOfSize(n);
            for (int k = 0; k < trees.size(); k++) {
                toldAs(trees.get(k), k);
            }
        }
    }

    private static void someGreatTrees() {
        for (int n = 8; n <= 12; n++) {
            List<String> trees = Model.treesOfSize(n);
            int last = trees.size() - 1;
            for (int k = 0; k < last; k += 1 + last / 500) {
                toldAs(trees.get(k), k);
            }
            toldAs(trees.get(last), last);
        }
    }

    private static void toldAs(String tree, int rank) {
        TreeLanguages x = new TreeLanguages();
        Due.push(x, tree);
        Due.due("size() of " + tree, x.size(), tree.length());
        Due.due("rank() of " + tree, x.rank(), rank);
        for (int i = 0; i < tree.length(); i++) {
            Due.due("letter(" + i + ") of " + tree, x.letter(i), tree.charAt(i) - '0');
        }
        for (int i : new int[] {-1, tree.length(), 12, Integer.MIN_VALUE, Integer.MAX_VALUE}) {
            Due.due("letter(" + i + ") of " + tree, x.letter(i), -4);
        }
    }

    private static void theTopmostTreeIsTold() {
        TreeLanguages x = new TreeLanguages();
        Due.push(x, "3021");
        Due.push(x, "1");
        Due.due("size() of the topmost tree", x.size(), 1);
        Due.due("rank() of the topmost tree", x.rank(), 1);
        Due.due("letter(0) of the topmost tree", x.letter(0), 1);
        Due.due("letter(1) of the topmost tree", x.letter(1), -4);
        x.load(6, 6, 121);
        x.one();
        Due.due("size() of a loaded tree with letter 2 on it", x.size(), 7);
        Due.due("rank() of a loaded tree with letter 2 on it", x.rank(), 121);
        Due.holds("its letters", Due.written(x).equals("2332111"));
    }
}
