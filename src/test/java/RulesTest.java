/** Promises 1 to 5: a new object, leafRule, oneRule, twoRule, finals. */
public final class RulesTest {
    private static final int[] OUTSIDE = {-1, -2, 100, Integer.MIN_VALUE, Integer.MAX_VALUE};

    public static void main(String[] args) {
        newObject();
        leafRules();
        oneRules();
        twoRules();
        finalStates();
        wrongAutomata();
        everyRuleHasItsOwnPlace();
        Due.end();
    }

    private static void newObject() {
        TreeLanguages x = new TreeLanguages();
        Due.due("size() of a new object", x.size(), -4);
        Due.due("discard() of a new object", x.discard(), 0);
        Due.due("one() on a new object", x.one(), -3);
        for (int m = 0; m < 2; m++) {
            Due.due("finals before", x.finals(m, 15), 0);
            for (int letter = 0; letter < 2; letter++) {
                Due.due("leafRule before", x.leafRule(m, letter, 0), 0);
            }
            for (int p = 0; p < 4; p++) {
                Due.due("oneRule before", x.oneRule(m, p, 0), 0);
            }
            for (int pair = 0; pair < 16; pair++) {
                Due.due("twoRule before", x.twoRule(m, pair, 0), 0);
            }
        }
        noTreeHasAState();
    }

    private static void noTreeHasAState() {
        TreeLanguages x = new TreeLanguages();
        x.finals(0, 15);
        x.finals(1, 15);
        for (String tree : new String[] {"0", "1", "20", "301"}) {
            x.discard();
            Due.push(x, tree);
            Due.due("states(0) of " + tree, x.states(0), 0);
            Due.due("states(1) of " + tree, x.states(1), 0);
        }
        Due.due("count(5, 7)", x.count(5, 7), 382);
    }

    private static void leafRules() {
        TreeLanguages x = new TreeLanguages();
        Due.due("leafRule(0, 0, 15)", x.leafRule(0, 0, 15), 0);
        Due.due("leafRule(0, 1, 6)", x.leafRule(0, 1, 6), 0);
        for (int wrong : OUTSIDE) {
            Due.due("leafRule(0, " + wrong + ", 1)", x.leafRule(0, wrong, 1), -1);
            Due.due("leafRule(0, 0, " + wrong + ")", x.leafRule(0, 0, wrong), -1);
        }
        Due.due("leafRule(0, 2, 1)", x.leafRule(0, 2, 1), -1);
        Due.due("leafRule(0, 0, 16)", x.leafRule(0, 0, 16), -1);
        x.leaf(0);
        Due.due("states(0) of 0", x.states(0), 15);
        Due.due("leafRule(0, 0, 0)", x.leafRule(0, 0, 0), 15);
        Due.due("states(0) of 0 when the rule is gone", x.states(0), 0);
        x.leaf(1);
        Due.due("states(0) of 1", x.states(0), 6);
        Due.due("states(1) of 1", x.states(1), 0);
    }

    private static void oneRules() {
        TreeLanguages x = new TreeLanguages();
        x.leafRule(1, 0, 8);
        x.leafRule(1, 1, 1);
        Due.due("oneRule(1, 3, 15)", x.oneRule(1, 3, 15), 0);
        Due.due("oneRule(1, 0, 2)", x.oneRule(1, 0, 2), 0);
        for (int wrong : OUTSIDE) {
            Due.due("oneRule(1, " + wrong + ", 1)", x.oneRule(1, wrong, 1), -1);
            Due.due("oneRule(1, 3, " + wrong + ")", x.oneRule(1, 3, wrong), -1);
        }
        Due.due("oneRule(1, 4, 1)", x.oneRule(1, 4, 1), -1);
        Due.due("oneRule(1, 3, 16)", x.oneRule(1, 3, 16), -1);
        Due.push(x, "21");
        Due.due("states(1) of 21", x.states(1), 2);
        Due.push(x, "20");
        Due.due("states(1) of 20", x.states(1), 15);
        Due.due("states(0) of 20", x.states(0), 0);
        Due.due("oneRule(1, 3, 4)", x.oneRule(1, 3, 4), 15);
        Due.due("states(1) of 20 by the new rule", x.states(1), 4);
    }

    private static void twoRules() {
        TreeLanguages x = new TreeLanguages();
        x.leafRule(0, 0, 2);
        x.leafRule(0, 1, 8);
        Due.due("twoRule(0, 1 + 4 * 3, 4)", x.twoRule(0, 13, 4), 0);
        Due.due("twoRule(0, 3 + 4 * 1, 1)", x.twoRule(0, 7, 1), 0);
        Due.due("twoRule(0, 15, 15)", x.twoRule(0, 15, 15), 0);
        for (int wrong : OUTSIDE) {
            Due.due("twoRule(0, " + wrong + ", 1)", x.twoRule(0, wrong, 1), -1);
            Due.due("twoRule(0, 15, " + wrong + ")", x.twoRule(0, 15, wrong), -1);
        }
        Due.due("twoRule(0, 16, 1)", x.twoRule(0, 16, 1), -1);
        Due.due("twoRule(0, 15, 16)", x.twoRule(0, 15, 16), -1);
        Due.push(x, "301");
        Due.due("states(0) of 301", x.states(0), 4);
        Due.push(x, "310");
        Due.due("states(0) of 310", x.states(0), 1);
        Due.push(x, "311");
        Due.due("states(0) of 311", x.states(0), 15);
        Due.due("states(1) of 311", x.states(1), 0);
        Due.due("twoRule(0, 15, 3)", x.twoRule(0, 15, 3), 15);
        Due.due("states(0) of 311 by the new rule", x.states(0), 3);
    }

    private static void finalStates() {
        TreeLanguages x = new TreeLanguages();
        x.leafRule(0, 0, 5);
        x.leaf(0);
        Due.due("runs(0) with no final state", x.runs(0), 0);
        Due.due("finals(0, 4)", x.finals(0, 4), 0);
        Due.due("runs(0) with one final state", x.runs(0), 1);
        Due.due("finals(0, 15)", x.finals(0, 15), 4);
        Due.due("runs(0) with all states final", x.runs(0), 2);
        for (int wrong : OUTSIDE) {
            Due.due("finals(0, " + wrong + ")", x.finals(0, wrong), -1);
        }
        Due.due("finals(0, 16)", x.finals(0, 16), -1);
        Due.due("finals(0, 10)", x.finals(0, 10), 15);
        Due.due("runs(0) with other states final", x.runs(0), 0);
        Due.due("states(0) whatever is final", x.states(0), 5);
        Due.due("finals(1, 0)", x.finals(1, 0), 0);
    }

    private static void wrongAutomata() {
        TreeLanguages x = new TreeLanguages();
        for (int m : new int[] {-1, 2, 3, Integer.MIN_VALUE, Integer.MAX_VALUE}) {
            Due.due("leafRule(" + m + ", 0, 1)", x.leafRule(m, 0, 1), -1);
            Due.due("oneRule(" + m + ", 0, 1)", x.oneRule(m, 0, 1), -1);
            Due.due("twoRule(" + m + ", 0, 1)", x.twoRule(m, 0, 1), -1);
            Due.due("finals(" + m + ", 1)", x.finals(m, 1), -1);
        }
        Due.due("finals(0, 0)", x.finals(0, 0), 0);
        Due.due("finals(1, 0)", x.finals(1, 0), 0);
    }

    private static void everyRuleHasItsOwnPlace() {
        TreeLanguages x = new TreeLanguages();
        for (int round = 0; round < 2; round++) {
            for (int m = 0; m < 2; m++) {
                Due.due("finals again", x.finals(m, 3 + m), round * (3 + m));
                for (int letter = 0; letter < 2; letter++) {
                    int set = 1 + letter + 4 * m;
                    Due.due("leafRule again", x.leafRule(m, letter, set), round * set);
                }
                for (int p = 0; p < 4; p++) {
                    int set = 2 + p + 5 * m;
                    Due.due("oneRule again", x.oneRule(m, p, set), round * set);
                }
                for (int pair = 0; pair < 16; pair++) {
                    int set = pair ^ 15 * m;
                    Due.due("twoRule again", x.twoRule(m, pair, set), round * set);
                }
            }
        }
    }
}
