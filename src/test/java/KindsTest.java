import java.util.List;

/** Promises 15 to 17: count, least, load. */
public final class KindsTest {
    private static final int[] TREES_OF_SIZE = {0, 2, 2, 6, 14, 42, 122, 382};
    private static final int[] WRONG_KINDS = {-1, 7, 8, Integer.MIN_VALUE, Integer.MAX_VALUE};
    private static final int[] WRONG_SIZES = {-1, 0, 8, 9, 12, Integer.MIN_VALUE, Integer.MAX_VALUE};

    public static void main(String[] args) {
        countsOfAll();
        wrongArguments();
        kindsOfLeaves();
        leastSizes();
        loadsInOrder();
        loadByTheRulesOfNow();
        loadOfNone();
        refusedLoadChangesNothing();
        loadedTreesAreBuiltUpon();
        askingChangesNothing();
        Due.end();
    }

    private static void countsOfAll() {
        TreeLanguages x = new TreeLanguages();
        for (int n = 1; n <= 7; n++) {
            Due.due("count(6, " + n + ")", x.count(6, n), TREES_OF_SIZE[n]);
            Due.due("count(5, " + n + ")", x.count(5, n), TREES_OF_SIZE[n]);
            for (int kind = 0; kind < 5; kind++) {
                Due.due("count(" + kind + ", " + n + ")", x.count(kind, n), 0);
            }
        }
    }

    private static void wrongArguments() {
        TreeLanguages x = new TreeLanguages();
        for (int kind : WRONG_KINDS) {
            Due.due("count(" + kind + ", 1)", x.count(kind, 1), -1);
            Due.due("count(" + kind + ", 0)", x.count(kind, 0), -1);
            Due.due("least(" + kind + ")", x.least(kind), -1);
            Due.due("load(" + kind + ", 1, 0)", x.load(kind, 1, 0), -1);
            Due.due("load(" + kind + ", 1, -1)", x.load(kind, 1, -1), -1);
        }
        for (int n : WRONG_SIZES) {
            for (int kind = 0; kind < 7; kind++) {
                Due.due("count(" + kind + ", " + n + ")", x.count(kind, n), -1);
                Due.due("load(" + kind + ", " + n + ", 0)", x.load(kind, n, 0), -1);
                Due.due("load(" + kind + ", " + n + ", -1)", x.load(kind, n, -1), -1);
            }
        }
        Due.due("size()", x.size(), -4);
    }

    /** Every way in which two automata may accept the two leaves, and the number in each kind. */
    private static void kindsOfLeaves() {
        for (int accepted = 0; accepted < 16; accepted++) {
            TreeLanguages x = new TreeLanguages();
            x.finals(0, 2);
            x.finals(1, 8);
            int[] due = new int[7];
            for (int letter = 0; letter < 2; letter++) {
                boolean zero = (accepted >> letter & 1) != 0;
                boolean one = (accepted >> 2 + letter & 1) != 0;
                x.leafRule(0, letter, zero ? 3 : 13);
                x.leafRule(1, letter, one ? 12 : 7);
                due[0] += zero ? 1 : 0;
                due[1] += one ? 1 : 0;
                due[2] += zero && one ? 1 : 0;
                due[3] += zero || one ? 1 : 0;
                due[4] += zero && !one ? 1 : 0;
                due[5] += zero || one ? 0 : 1;
                due[6] += 1;
            }
            for (int kind = 0; kind < 7; kind++) {
                String what = " where " + accepted + " is accepted";
                Due.due("count(" + kind + ", 1)" + what, x.count(kind, 1), due[kind]);
                int last = due[kind] - 1;
                Due.due("load(" + kind + ", 1, " + last + ")" + what, x.load(kind, 1, last), last >= 0 ? 0 : -4);
                Due.due("load(" + kind + ", 1, past)" + what, x.load(kind, 1, due[kind]), -4);
            }
        }
    }

    /** Automaton 0 counts letters 2 and lets only chains through; its final state tells their number. */
    private static void leastSizes() {
        TreeLanguages x = new TreeLanguages();
        x.leafRule(0, 1, 1);
        x.oneRule(0, 0, 2);
        x.oneRule(0, 1, 4);
        x.oneRule(0, 2, 8);
        for (int q = 0; q < 4; q++) {
            x.finals(0, 1 << q);
            Due.due("least(0) of chains with " + q, x.least(0), q + 1);
            Due.due("least(4) of chains with " + q, x.least(4), q + 1);
            Due.due("least(5) of chains with " + q, x.least(5), 1);
            Due.due("count(0, " + (q + 1) + ")", x.count(0, q + 1), 1);
            Due.due("least(1)", x.least(1), -4);
        }
        leastOfSevenAndMore();
    }

    /** Each letter 3 over two trees alike goes one state up, so that only size 7 or 15 gets there. */
    private static void leastOfSevenAndMore() {
        TreeLanguages x = new TreeLanguages();
        x.leafRule(1, 0, 1);
        x.twoRule(1, 0, 2);
        x.twoRule(1, 5, 4);
        x.twoRule(1, 10, 8);
        x.finals(1, 4);
        Due.due("least(1) at the greatest size", x.least(1), 7);
        Due.due("count(1, 7)", x.count(1, 7), 1);
        Due.due("load(1, 7, 0)", x.load(1, 7, 0), 0);
        Due.holds("3300300 was loaded", Due.written(x).equals("3300300"));
        x.finals(1, 8);
        Due.due("least(1) past the greatest size", x.least(1), -4);
        Due.due("least(3) past the greatest size", x.least(3), -4);
    }

    private static void loadsInOrder() {
        for (int n = 1; n <= 7; n++) {
            List<String> trees = Model.treesOfSize(n);
            for (int k = 0; k < trees.size(); k++) {
                TreeLanguages x = new TreeLanguages();
                Due.due("load(6, " + n + ", " + k + ")", x.load(6, n, k), 0);
                Due.due("rank()", x.rank(), k);
                Due.holds(trees.get(k) + " was loaded", Due.written(x).equals(trees.get(k)));
            }
        }
    }

    /** No other call stands between the rules and the load that must heed them. */
    private static void loadByTheRulesOfNow() {
        for (int m = 0; m < 2; m++) {
            TreeLanguages x = new TreeLanguages();
            x.leafRule(m, 1, 2);
            x.oneRule(m, 1, 2);
            x.finals(m, 2);
            Due.due("load(" + m + ", 3, 0)", x.load(m, 3, 0), 0);
            Due.holds("221 was loaded", Due.written(x).equals("221"));
            x.leafRule(m, 0, 2);
            Due.due("load(" + m + ", 3, 0) by the new rule", x.load(m, 3, 0), 0);
            Due.holds("220 was loaded", Due.written(x).equals("220"));
            x.finals(m, 1);
            Due.due("load(" + m + ", 3, 0) with another final state", x.load(m, 3, 0), -4);
            Due.due("load(5, 3, 0) with another final state", x.load(5, 3, 0), 0);
            Due.due("least(" + m + ") with another final state", x.least(m), -4);
        }
    }

    private static void loadOfNone() {
        TreeLanguages x = new TreeLanguages();
        for (int n = 1; n <= 7; n++) {
            for (int k : new int[] {-1, TREES_OF_SIZE[n], Integer.MIN_VALUE, Integer.MAX_VALUE}) {
                Due.due("load(6, " + n + ", " + k + ")", x.load(6, n, k), -4);
            }
            Due.due("load(0, " + n + ", 0)", x.load(0, n, 0), -4);
        }
        Due.due("discard()", x.discard(), 0);
    }

    private static void refusedLoadChangesNothing() {
        TreeLanguages x = new TreeLanguages();
        Due.push(x, "20");
        Due.push(x, "301");
        Due.due("load(6, 3, 6)", x.load(6, 3, 6), -4);
        Due.due("load(6, 8, 0)", x.load(6, 8, 0), -1);
        Due.due("load(7, 1, 0)", x.load(7, 1, 0), -1);
        Due.holds("301 is topmost still", Due.written(x).equals("301"));
        Due.due("two()", x.two(), 1);
        Due.holds("20 was below still", Due.written(x).equals("320301"));
    }

    private static void loadedTreesAreBuiltUpon() {
        TreeLanguages x = new TreeLanguages();
        x.leaf(1);
        x.leaf(1);
        Due.due("load(6, 3, 3)", x.load(6, 3, 3), 0);
        Due.due("leaf(1)", x.leaf(1), 2);
        Due.due("one()", x.one(), 2);
        Due.due("two()", x.two(), 1);
        Due.holds("330121 was made", Due.written(x).equals("330121"));
        x.leafRule(0, 0, 1);
        x.leafRule(0, 1, 2);
        x.oneRule(0, 1, 4);
        x.twoRule(0, 4, 8);
        x.twoRule(0, 11, 5);
        x.finals(0, 4);
        Due.due("states(0)", x.states(0), 5);
        Due.due("runs(0)", x.runs(0), 1);
        Due.due("load(0, 6, 0)", x.load(0, 6, 0), 0);
        Due.holds("330121 was loaded", Due.written(x).equals("330121"));
        Due.due("discard()", x.discard(), 1);
    }

    private static void askingChangesNothing() {
        TreeLanguages x = new TreeLanguages();
        x.leafRule(0, 0, 1);
        x.finals(0, 1);
        Due.push(x, "3020");
        x.leaf(1);
        for (int kind = 0; kind < 7; kind++) {
            x.count(kind, 7);
            x.least(kind);
        }
        Due.holds("1 is topmost still", Due.written(x).equals("1"));
        Due.due("two()", x.two(), 1);
        Due.holds("3020 was below still", Due.written(x).equals("330201"));
    }
}
