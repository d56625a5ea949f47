/** Promises 6 to 9: leaf, one, two, discard. */
public final class StackTest {
    public static void main(String[] args) {
        leaves();
        ones();
        twos();
        discarding();
        fullOfLeaves();
        fullComesBeforeTooFew();
        fullAfterLoad();
        refusedLoadMakesNoRoom();
        Due.end();
    }

    private static void leaves() {
        TreeLanguages x = new TreeLanguages();
        Due.due("leaf(1)", x.leaf(1), 1);
        Due.due("leaf(0)", x.leaf(0), 2);
        for (int wrong : new int[] {-1, 2, 3, Integer.MIN_VALUE, Integer.MAX_VALUE}) {
            Due.due("leaf(" + wrong + ")", x.leaf(wrong), -1);
        }
        Due.due("letter(0)", x.letter(0), 0);
        Due.due("leaf(1)", x.leaf(1), 3);
        Due.due("letter(0)", x.letter(0), 1);
    }

    private static void ones() {
        TreeLanguages x = new TreeLanguages();
        Due.due("one() on an empty stack", x.one(), -3);
        x.leaf(1);
        Due.due("one()", x.one(), 1);
        Due.due("one()", x.one(), 1);
        Due.holds("221 was made", Due.written(x).equals("221"));
        x.leaf(0);
        Due.due("one()", x.one(), 2);
        Due.holds("20 was made", Due.written(x).equals("20"));
        Due.due("two()", x.two(), 1);
        Due.holds("the tree below is as it was", Due.written(x).equals("322120"));
    }

    private static void twos() {
        TreeLanguages x = new TreeLanguages();
        Due.due("two() on an empty stack", x.two(), -3);
        x.leaf(0);
        Due.due("two() on one tree", x.two(), -3);
        Due.due("size() after it", x.size(), 1);
        x.leaf(1);
        x.leaf(1);
        Due.due("one()", x.one(), 3);
        Due.due("two()", x.two(), 2);
        Due.holds("the lower tree is the first child", Due.written(x).equals("3121"));
        Due.due("two()", x.two(), 1);
        Due.holds("the lowest tree is the first child", Due.written(x).equals("303121"));
    }

    private static void discarding() {
        TreeLanguages x = new TreeLanguages();
        x.leaf(0);
        x.leaf(1);
        x.leaf(1);
        Due.due("discard()", x.discard(), 3);
        Due.due("size()", x.size(), -4);
        Due.due("discard()", x.discard(), 0);
        Due.due("leaf(1)", x.leaf(1), 1);
        x.leaf(0);
        x.two();
        Due.due("discard()", x.discard(), 1);
        x.load(6, 4, 2);
        x.leaf(0);
        Due.due("discard() of a loaded tree and a leaf", x.discard(), 2);
    }

    private static void fullOfLeaves() {
        TreeLanguages x = new TreeLanguages();
        for (int i = 1; i <= 12; i++) {
            Due.due("leaf(0)", x.leaf(0), i);
        }
        Due.due("leaf(2) on a full stack", x.leaf(2), -1);
        Due.due("leaf(1) on a full stack", x.leaf(1), -2);
        Due.due("one() on a full stack", x.one(), -2);
        Due.due("two() on a full stack", x.two(), -2);
        Due.due("letter(0)", x.letter(0), 0);
        Due.due("size()", x.size(), 1);
        Due.due("discard()", x.discard(), 12);
        for (int i = 1; i <= 12; i++) {
            Due.due("leaf(1)", x.leaf(1), i);
        }
        Due.due("leaf(1)", x.leaf(1), -2);
    }

    private static void fullComesBeforeTooFew() {
        TreeLanguages x = new TreeLanguages();
        x.leaf(1);
        for (int i = 0; i < 10; i++) {
            Due.due("one()", x.one(), 1);
        }
        Due.due("two() with 11 made", x.two(), -3);
        Due.due("one()", x.one(), 1);
        Due.due("two() with 12 made", x.two(), -2);
        Due.due("one() with 12 made", x.one(), -2);
        Due.due("leaf(0) with 12 made", x.leaf(0), -2);
        Due.holds("the tree is as it was", Due.written(x).equals("222222222221"));
    }

    private static void fullAfterLoad() {
        TreeLanguages x = new TreeLanguages();
        for (int n = 1; n <= 7; n++) {
            for (int i = 0; i < 12; i++) {
                x.leaf(0);
            }
            Due.due("load(6, " + n + ", 0)", x.load(6, n, 0), 0);
            for (int i = n; i < 12; i++) {
                Due.due("leaf(1) above a tree of size " + n, x.leaf(1), i - n + 2);
            }
            Due.due("leaf(1) past a tree of size " + n, x.leaf(1), -2);
            Due.due("two() past a tree of size " + n, x.two(), -2);
        }
    }

    private static void refusedLoadMakesNoRoom() {
        TreeLanguages x = new TreeLanguages();
        for (int i = 0; i < 12; i++) {
            x.leaf(1);
        }
        Due.due("load(0, 1, 0)", x.load(0, 1, 0), -4);
        Due.due("load(0, 0, 0)", x.load(0, 0, 0), -1);
        Due.due("leaf(1)", x.leaf(1), -2);
        Due.due("discard()", x.discard(), 12);
    }
}
