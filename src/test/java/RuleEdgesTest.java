/** The edges that promises 1 to 5 name, a sentence at a time. */
public final class RuleEdgesTest {
    private static final int BAD_ARG = -1;
    private static final int TOO_FEW = -3;
    private static final int NONE = -4;

    public static void main(String[] args) {
        noLeafMayHaveAState();
        noNodeMayHaveAState();
        noStateIsFinal();
        theStackIsEmpty();
        aNewObjectIsNewBesideAnother();
        leafRuleOutside();
        leafRuleInside();
        oneRuleOutside();
        oneRuleInside();
        twoRuleOutside();
        twoRuleInside();
        pairIsFirstAndFourTimesSecond();
        finalsOutside();
        finalsInside();
        Due.end();
    }

    private static void noLeafMayHaveAState() {
        Due.sentence("Promise 1: No leaf and no node may have a state: leaves");
        TreeLanguages x = new TreeLanguages();
        for (int m = 0; m < 2; m++) {
            x.finals(m, 15);
            for (int letter = 0; letter < 2; letter++) {
                x.leaf(letter);
                Due.due("states(" + m + ") of " + letter, x.states(m), 0);
                Due.due("runs(" + m + ") of " + letter, x.runs(m), 0);
            }
        }
        for (int m = 0; m < 2; m++) {
            for (int letter = 0; letter < 2; letter++) {
                Due.due("leafRule(" + m + ", " + letter + ", 0)", x.leafRule(m, letter, 0), 0);
            }
        }
    }

    private static void noNodeMayHaveAState() {
        Due.sentence("Promise 1: No leaf and no node may have a state: nodes");
        TreeLanguages x = new TreeLanguages();
        for (int m = 0; m < 2; m++) {
            x.finals(m, 15);
            x.leafRule(m, 0, 15);
            x.leafRule(m, 1, 15);
        }
        for (String tree : new String[] {"20", "21", "300", "301", "310", "311"}) {
            x.discard();
            Due.push(x, tree);
            for (int m = 0; m < 2; m++) {
                Due.due("states(" + m + ") of " + tree, x.states(m), 0);
                Due.due("runs(" + m + ") of " + tree, x.runs(m), 0);
            }
        }
        for (int m = 0; m < 2; m++) {
            for (int p = 0; p < 4; p++) {
                Due.due("oneRule(" + m + ", " + p + ", 0)", x.oneRule(m, p, 0), 0);
            }
            for (int pair = 0; pair < 16; pair++) {
                Due.due("twoRule(" + m + ", " + pair + ", 0)", x.twoRule(m, pair, 0), 0);
            }
        }
    }

    private static void noStateIsFinal() {
        Due.sentence("Promise 1: no state is final");
        TreeLanguages x = new TreeLanguages();
        x.leaf(0);
        for (int m = 0; m < 2; m++) {
            x.leafRule(m, 0, 15);
            Due.due("states(" + m + ")", x.states(m), 15);
            Due.due("runs(" + m + ")", x.runs(m), 0);
            Due.due("count(" + m + ", 1)", x.count(m, 1), 0);
            Due.due("least(" + m + ")", x.least(m), NONE);
            Due.due("finals(" + m + ", 0)", x.finals(m, 0), 0);
        }
    }

    private static void theStackIsEmpty() {
        Due.sentence("Promise 1: the stack is empty");
        TreeLanguages x = new TreeLanguages();
        Due.due("size()", x.size(), NONE);
        Due.due("letter(0)", x.letter(0), NONE);
        Due.due("rank()", x.rank(), NONE);
        Due.due("one()", x.one(), TOO_FEW);
        Due.due("two()", x.two(), TOO_FEW);
        Due.due("discard()", x.discard(), 0);
        Due.due("discard() of another one", new TreeLanguages().discard(), 0);
        Due.due("leaf(0) of another one", new TreeLanguages().leaf(0), 1);
    }

    private static void aNewObjectIsNewBesideAnother() {
        Due.sentence("Promise 1: A new object, when another one is in use");
        for (Situation other : Situation.values()) {
            TreeLanguages used = other.reach();
            TreeLanguages x = new TreeLanguages();
            Due.due("size() beside " + other, x.size(), NONE);
            Due.due("leaf(0) beside " + other, x.leaf(0), 1);
            for (int m = 0; m < 2; m++) {
                Due.due("states(" + m + ") beside " + other, x.states(m), 0);
                Due.due("finals(" + m + ", 0) beside " + other, x.finals(m, 0), 0);
                Due.due("leafRule(" + m + ", 0, 0) beside " + other, x.leafRule(m, 0, 0), 0);
            }
            Due.due("count(5, 7) beside " + other, x.count(5, 7), 382);
            Due.holds(other + " is empty or not as before", used.size() == NONE == other.isEmpty());
        }
    }

    private static void leafRuleOutside() {
        for (int m = 0; m < 2; m++) {
            int of = m;
            Due.sentence("Promise 2: BAD_ARG if letter is not 0 or 1");
            for (int letter : Refusal.outside(0, 1)) {
                String call = "leafRule(" + m + ", " + letter + ", ";
                Refusal.everywhere(call + "8)", BAD_ARG, x -> x.leafRule(of, letter, 8));
                Refusal.everywhere(call + letter + ")", BAD_ARG, x -> x.leafRule(of, letter, letter));
            }
            Due.sentence("Promise 2: BAD_ARG if .. set not 0 to 15");
            for (int set : Refusal.outside(0, 15)) {
                String call = "leafRule(" + m + ", " + m + ", " + set + ")";
                Refusal.everywhere(call, BAD_ARG, x -> x.leafRule(of, of, set));
            }
        }
    }

    private static void leafRuleInside() {
        Due.sentence("Promise 2: Otherwise the set before");
        for (int m = 0; m < 2; m++) {
            for (int letter = 0; letter < 2; letter++) {
                TreeLanguages x = new TreeLanguages();
                x.leaf(letter);
                String call = "leafRule(" + m + ", " + letter + ", ";
                for (int set = 0; set <= 15; set++) {
                    Due.due(call + set + ")", x.leafRule(m, letter, set), set == 0 ? 0 : set - 1);
                    Due.due("states(" + m + ") of " + letter, x.states(m), set);
                }
                Due.due(call + "15) again", x.leafRule(m, letter, 15), 15);
                Due.due(call + "0)", x.leafRule(m, letter, 0), 15);
                Due.due(call + "0) again", x.leafRule(m, letter, 0), 0);
                Due.due("states(" + m + ") of " + letter, x.states(m), 0);
            }
        }
    }

    private static void oneRuleOutside() {
        for (int m = 0; m < 2; m++) {
            int of = m;
            Due.sentence("Promise 3: BAD_ARG if p is not 0 to 3");
            for (int p : Refusal.outside(0, 3)) {
                String call = "oneRule(" + m + ", " + p + ", ";
                Refusal.everywhere(call + "4)", BAD_ARG, x -> x.oneRule(of, p, 4));
                Refusal.everywhere(call + p + ")", BAD_ARG, x -> x.oneRule(of, p, p));
            }
            Due.sentence("Promise 3: BAD_ARG if .. set not 0 to 15");
            for (int set : Refusal.outside(0, 15)) {
                Refusal.everywhere("oneRule(" + m + ", 0, " + set + ")", BAD_ARG, x -> x.oneRule(of, 0, set));
                Refusal.everywhere("oneRule(" + m + ", 3, " + set + ")", BAD_ARG, x -> x.oneRule(of, 3, set));
            }
        }
    }

    private static void oneRuleInside() {
        Due.sentence("Promise 3: Otherwise the set before");
        for (int m = 0; m < 2; m++) {
            for (int p = 0; p < 4; p++) {
                TreeLanguages x = new TreeLanguages();
                Due.push(x, "20");
                x.leafRule(m, 0, 1 << p);
                String call = "oneRule(" + m + ", " + p + ", ";
                for (int set = 0; set <= 15; set++) {
                    Due.due(call + set + ")", x.oneRule(m, p, set), set == 0 ? 0 : set - 1);
                    Due.due("states(" + m + ") of 20", x.states(m), set);
                }
                Due.due(call + "15) again", x.oneRule(m, p, 15), 15);
                Due.due(call + "0)", x.oneRule(m, p, 0), 15);
                Due.due(call + "0) again", x.oneRule(m, p, 0), 0);
                Due.due("states(" + m + ") of 20", x.states(m), 0);
            }
        }
    }

    private static void twoRuleOutside() {
        for (int m = 0; m < 2; m++) {
            int of = m;
            Due.sentence("Promise 4: BAD_ARG if pair is not 0 to 15");
            for (int pair : Refusal.outside(0, 15)) {
                String call = "twoRule(" + m + ", " + pair + ", ";
                Refusal.everywhere(call + "2)", BAD_ARG, x -> x.twoRule(of, pair, 2));
                Refusal.everywhere(call + pair + ")", BAD_ARG, x -> x.twoRule(of, pair, pair));
            }
            Due.sentence("Promise 4: BAD_ARG if .. set not 0 to 15");
            for (int set : Refusal.outside(0, 15)) {
                Refusal.everywhere("twoRule(" + m + ", 0, " + set + ")", BAD_ARG, x -> x.twoRule(of, 0, set));
                Refusal.everywhere("twoRule(" + m + ", 15, " + set + ")", BAD_ARG, x -> x.twoRule(of, 15, set));
            }
        }
    }

    private static void twoRuleInside() {
        Due.sentence("Promise 4: Otherwise the set before");
        for (int m = 0; m < 2; m++) {
            for (int pair = 0; pair < 16; pair++) {
                TreeLanguages x = new TreeLanguages();
                Due.push(x, "301");
                x.leafRule(m, 0, 1 << pair % 4);
                x.leafRule(m, 1, 1 << pair / 4);
                String call = "twoRule(" + m + ", " + pair + ", ";
                for (int set = 0; set <= 15; set++) {
                    Due.due(call + set + ")", x.twoRule(m, pair, set), set == 0 ? 0 : set - 1);
                    Due.due("states(" + m + ") of 301", x.states(m), set);
                }
                Due.due(call + "15) again", x.twoRule(m, pair, 15), 15);
                Due.due(call + "0)", x.twoRule(m, pair, 0), 15);
                Due.due(call + "0) again", x.twoRule(m, pair, 0), 0);
                Due.due("states(" + m + ") of 301", x.states(m), 0);
            }
        }
    }

    private static void pairIsFirstAndFourTimesSecond() {
        Due.sentence("Promise 4: pair is p + 4 q");
        TreeLanguages x = new TreeLanguages();
        x.leafRule(0, 0, 1);
        x.leafRule(0, 1, 8);
        x.twoRule(0, 3, 2);
        x.twoRule(0, 12, 4);
        Due.push(x, "310");
        Due.due("states(0) of a first child with 3 and a second with 0", x.states(0), 2);
        Due.push(x, "301");
        Due.due("states(0) of a first child with 0 and a second with 3", x.states(0), 4);
        Due.push(x, "300");
        Due.due("states(0) of children with 0", x.states(0), 0);
    }

    private static void finalsOutside() {
        Due.sentence("Promise 5: BAD_ARG if set is not 0 to 15");
        for (int set : Refusal.outside(0, 15)) {
            Refusal.everywhere("finals(0, " + set + ")", BAD_ARG, x -> x.finals(0, set));
            Refusal.everywhere("finals(1, " + set + ")", BAD_ARG, x -> x.finals(1, set));
        }
    }

    private static void finalsInside() {
        Due.sentence("Promise 5: Otherwise the set before");
        for (int m = 0; m < 2; m++) {
            TreeLanguages x = new TreeLanguages();
            x.leaf(1);
            x.leafRule(m, 1, 15);
            for (int set = 0; set <= 15; set++) {
                Due.due("finals(" + m + ", " + set + ")", x.finals(m, set), set == 0 ? 0 : set - 1);
                Due.due("runs(" + m + ") with finals " + set, x.runs(m), Integer.bitCount(set));
            }
            Due.due("finals(" + m + ", 15) again", x.finals(m, 15), 15);
            Due.due("finals(" + m + ", 0)", x.finals(m, 0), 15);
            Due.due("finals(" + m + ", 0) again", x.finals(m, 0), 0);
            Due.due("runs(" + m + ") with no final state", x.runs(m), 0);
        }
    }
}
