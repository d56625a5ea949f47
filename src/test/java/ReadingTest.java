/** Promises 13 and 14: states, runs. */
public final class ReadingTest {
    private static final String[] TREES = {"0", "1", "20", "221", "301", "310", "3021", "3200", "2301",
        "33010", "31301", "32021", "321220", "3203120", "3330110", "2320220", "3301310"};

    public static void main(String[] args) {
        emptyStack();
        wrongAutomata();
        everyRunIsCounted();
        greatestNumberOfRuns();
        rulesOfNowAreUsed();
        statesNeedWholeRuns();
        loadedTreesAreRead();
        fullStackIsRead();
        Due.end();
    }

    private static void emptyStack() {
        TreeLanguages x = new TreeLanguages();
        for (int m = 0; m < 2; m++) {
            Due.due("states(" + m + ")", x.states(m), -4);
            Due.due("runs(" + m + ")", x.runs(m), -4);
        }
    }

    private static void wrongAutomata() {
        TreeLanguages x = new TreeLanguages();
        for (int round = 0; round < 2; round++) {
            for (int m : new int[] {-1, 2, Integer.MIN_VALUE, Integer.MAX_VALUE}) {
                Due.due("states(" + m + ")", x.states(m), -1);
                Due.due("runs(" + m + ")", x.runs(m), -1);
            }
            x.leaf(0);
        }
    }

    /** Tries every way to give the letters states and keeps those that are runs. */
    private static void everyRunIsCounted() {
        for (int seed = 1; seed <= 12; seed++) {
            int[] sets = new int[23];
            int number = seed;
            for (int i = 0; i < sets.length; i++) {
                number = number * 1103515245 + 12345;
                sets[i] = number >>> 20 & number >>> (seed % 2 == 0 ? 20 : 16) & 15;
            }
            for (String tree : TREES) {
                compareWithAllRuns(tree, sets, seed % 2);
            }
        }
    }

    private static void compareWithAllRuns(String tree, int[] sets, int m) {
        TreeLanguages x = new TreeLanguages();
        for (int i = 0; i < 2; i++) {
            x.leafRule(m, i, sets[i]);
        }
        for (int i = 0; i < 4; i++) {
            x.oneRule(m, i, sets[2 + i]);
        }
        for (int i = 0; i < 16; i++) {
            x.twoRule(m, i, sets[6 + i]);
        }
        x.finals(m, sets[22]);
        Due.push(x, tree);
        int states = 0;
        int runs = 0;
        for (int given = 0; given < 1 << 2 * tree.length(); given++) {
            if (isRun(tree, given, sets)) {
                states |= 1 << (given & 3);
                runs += sets[22] >> (given & 3) & 1;
            }
        }
        Due.due("states(" + m + ") of " + tree, x.states(m), states);
        Due.due("runs(" + m + ") of " + tree, x.runs(m), runs);
        Due.due("states of the other automaton", x.states(1 - m), 0);
        Due.due("runs of the other automaton", x.runs(1 - m), 0);
    }

    /** The letter at place i has the state that the bits 2 i and 2 i + 1 of what is given tell. */
    private static boolean isRun(String tree, int given, int[] sets) {
        for (int i = 0; i < tree.length(); i++) {
            int letter = tree.charAt(i) - '0';
            int may;
            if (letter < 2) {
                may = sets[letter];
            } else {
                int p = given >> 2 * (i + 1) & 3;
                if (letter == 2) {
                    may = sets[2 + p];
                } else {
                    int second = i + 1 + Model.first(tree.substring(i)).length();
                    may = sets[6 + p + 4 * (given >> 2 * second & 3)];
                }
            }
            if ((may >> (given >> 2 * i & 3) & 1) == 0) {
                return false;
            }
        }
        return true;
    }

    private static void greatestNumberOfRuns() {
        TreeLanguages x = new TreeLanguages();
        x.leafRule(0, 0, 15);
        x.leafRule(0, 1, 15);
        for (int p = 0; p < 4; p++) {
            x.oneRule(0, p, 15);
        }
        for (int pair = 0; pair < 16; pair++) {
            x.twoRule(0, pair, 15);
        }
        x.finals(0, 15);
        Due.push(x, "220");
        Due.due("runs(0) of 3 letters", x.runs(0), 64);
        x.discard();
        Due.push(x, "323013230120");
        Due.due("size()", x.size(), 12);
        Due.due("runs(0) of 12 letters", x.runs(0), 16777216);
        x.finals(0, 4);
        Due.due("runs(0) of 12 letters to one state", x.runs(0), 4194304);
    }

    private static void rulesOfNowAreUsed() {
        TreeLanguages x = new TreeLanguages();
        Due.push(x, "20");
        x.finals(1, 8);
        x.leafRule(1, 0, 3);
        x.oneRule(1, 0, 8);
        Due.due("runs(1) with one rule", x.runs(1), 1);
        x.oneRule(1, 1, 12);
        Due.due("states(1) with two rules", x.states(1), 12);
        Due.due("runs(1) with two rules", x.runs(1), 2);
        x.leafRule(1, 0, 0);
        Due.due("states(1) without the leaf's rule", x.states(1), 0);
        Due.due("runs(1) without the leaf's rule", x.runs(1), 0);
    }

    private static void statesNeedWholeRuns() {
        TreeLanguages x = new TreeLanguages();
        x.leafRule(0, 0, 1);
        x.finals(0, 15);
        for (int pair = 0; pair < 16; pair++) {
            x.twoRule(0, pair, 15);
        }
        Due.push(x, "301");
        Due.due("states(0) with a leaf that may have no state", x.states(0), 0);
        Due.due("runs(0) with a leaf that may have no state", x.runs(0), 0);
        x.leaf(0);
        Due.due("states(0) of the topmost tree alone", x.states(0), 1);
        Due.due("runs(0) of the topmost tree alone", x.runs(0), 1);
    }

    private static void loadedTreesAreRead() {
        TreeLanguages x = new TreeLanguages();
        for (int m = 0; m < 2; m++) {
            x.leafRule(m, 0, 8);
            x.leafRule(m, 1, 1);
            x.oneRule(m, 3, 8 >> m);
            x.oneRule(m, 0, 3);
            x.twoRule(m, 3, 5);
            x.twoRule(m, 12, 9);
            x.finals(m, 9);
        }
        readLoaded(x, "0", 0, 8, 8);
        readLoaded(x, "1", 1, 1, 1);
        readLoaded(x, "20", 0, 8, 4);
        readLoaded(x, "21", 1, 3, 3);
        readLoaded(x, "220", 0, 8, 0);
        readLoaded(x, "221", 1, 3, 3);
        readLoaded(x, "300", 2, 0, 0);
        readLoaded(x, "301", 3, 5, 5);
        readLoaded(x, "310", 4, 9, 9);
        readLoaded(x, "311", 5, 0, 0);
    }

    private static void readLoaded(TreeLanguages x, String tree, int rank, int zero, int one) {
        Due.due("load of " + tree, x.load(6, tree.length(), rank), 0);
        Due.holds(tree + " was loaded", Due.written(x).equals(tree));
        Due.due("states(0) of the loaded " + tree, x.states(0), zero);
        Due.due("states(1) of the loaded " + tree, x.states(1), one);
    }

    private static void fullStackIsRead() {
        TreeLanguages x = new TreeLanguages();
        for (int m = 0; m < 2; m++) {
            x.leafRule(m, 0, 9 - m);
            x.finals(m, 15);
        }
        for (int i = 0; i < 12; i++) {
            x.leaf(0);
        }
        Due.due("states(0) of the 12th leaf", x.states(0), 9);
        Due.due("runs(0) of the 12th leaf", x.runs(0), 2);
        Due.due("states(1) of the 12th leaf", x.states(1), 8);
        Due.due("runs(1) of the 12th leaf", x.runs(1), 1);
        Due.due("leaf(0)", x.leaf(0), -2);
    }
}
