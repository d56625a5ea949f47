import java.util.function.ToIntFunction;

/** The edges that promises 6 to 9 name, a sentence at a time. */
public final class StackEdgesTest {
    private static final int BAD_ARG = -1;
    private static final int FULL = -2;
    private static final int TOO_FEW = -3;
    private static final int NONE = -4;

    /** Ways to make 12 leaves and nodes: a letter is the call that makes it. */
    private static final String[] TWELVE = {"000000000000", "122222222222", "013013013013", "010101010133",
        "012012012333", "002131301322", "010101333332", "101010101022"};

    public static void main(String[] args) {
        leafWithAWrongLetter();
        wrongLetterComesBeforeFull();
        twelveAreTakenAndNoMore();
        nodesCountAsLeavesDo();
        discardMakesRoom();
        loadMakesRoom();
        lettersOfALoadedTreeCount();
        refusedCallsDoNotCount();
        onlyDiscardAndLoadMakeRoom();
        leafAnswersTheNumber();
        oneWhenFull();
        oneOnAnEmptyStack();
        oneTestsFullFirst();
        oneOnOneTree();
        twoWhenFull();
        fullComesBeforeTooFew();
        twoOnFewerThanTwo();
        twoOnTwoTrees();
        lowerTreeIsFirst();
        discardAnswersHowMany();
        discardEmptiesTheStack();
        Due.end();
    }

    private static void leafWithAWrongLetter() {
        Due.sentence("Promise 6: letter not 0 or 1 answers BAD_ARG");
        for (int letter : Refusal.outside(0, 1)) {
            Refusal.everywhere("leaf(" + letter + ")", BAD_ARG, x -> x.leaf(letter));
        }
        for (int letter = 0; letter < 2; letter++) {
            TreeLanguages x = new TreeLanguages();
            Due.due("leaf(" + letter + ")", x.leaf(letter), 1);
            Due.due("letter(0)", x.letter(0), letter);
        }
    }

    private static void wrongLetterComesBeforeFull() {
        Due.sentence("Promise 6: Tested in this order");
        TreeLanguages x = Situation.TWELVE_LEAVES.reach();
        Due.due("leaf(2) with 12 made", x.leaf(2), BAD_ARG);
        Due.due("leaf(-1) with 12 made", x.leaf(-1), BAD_ARG);
        Due.due("leaf(0) with 12 made", x.leaf(0), FULL);
        Due.due("leaf(1) with 12 made", x.leaf(1), FULL);
    }

    private static void twelveAreTakenAndNoMore() {
        Due.sentence("Promise 6: 12 leaves and nodes were made .. answers FULL");
        for (Situation situation : Situation.values()) {
            if (situation.isFull()) {
                Refusal.in(situation, "leaf(0)", FULL, x -> x.leaf(0));
                Refusal.in(situation, "leaf(1)", FULL, x -> x.leaf(1));
            }
        }
        Due.due("leaf(0) with 11 made", Situation.ONE_TREE_OF_11.reach().leaf(0), 2);
        Due.due("leaf(1) with 11 made", Situation.TWO_TREES_OF_11.reach().leaf(1), 3);
    }

    private static void nodesCountAsLeavesDo() {
        Due.sentence("Promise 6: 12 leaves and nodes");
        for (String steps : TWELVE) {
            TreeLanguages x = new TreeLanguages();
            takeAll(x, steps);
            refuseAll(x, steps);
        }
    }

    private static void discardMakesRoom() {
        Due.sentence("Promise 6: since the stack was last emptied by a call of discard");
        for (int before = 0; before <= 12; before++) {
            for (String steps : TWELVE) {
                TreeLanguages x = new TreeLanguages();
                takeAll(x, steps.substring(0, before));
                x.discard();
                takeAll(x, steps);
                refuseAll(x, steps + " after " + before + " and discard");
            }
        }
    }

    private static void loadMakesRoom() {
        Due.sentence("Promise 6: since the stack was last emptied by a call of .. load");
        for (int before = 0; before <= 12; before++) {
            for (String steps : TWELVE) {
                TreeLanguages x = new TreeLanguages();
                takeAll(x, steps.substring(0, before));
                Due.due("load(6, 1, 0) with " + before + " made", x.load(6, 1, 0), 0);
                takeAll(x, "22222222222");
                refuseAll(x, steps.substring(0, before) + " and load");
            }
        }
    }

    private static void lettersOfALoadedTreeCount() {
        Due.sentence("Promise 6: those of the tree that load puts there count as made since");
        for (int n = 1; n <= 7; n++) {
            int last = Model.treesOfSize(n).size() - 1;
            for (int k : new int[] {0, last / 2, last}) {
                for (String more : new String[] {"00000000000", "22222222222", "03030303030", "12312312312"}) {
                    TreeLanguages x = new TreeLanguages();
                    x.load(6, n, k);
                    takeAll(x, more.substring(0, 12 - n));
                    refuseAll(x, more + " on size " + n);
                    x.discard();
                    takeAll(x, "000000000000");
                    refuseAll(x, "12 leaves after discard of size " + n);
                }
            }
        }
    }

    private static void refusedCallsDoNotCount() {
        Due.sentence("Promise 6: 12 .. were made: by calls that were not refused");
        TreeLanguages x = new TreeLanguages();
        for (int round = 1; round <= 12; round++) {
            Due.due("leaf(2)", x.leaf(2), BAD_ARG);
            Due.due("load(0, 1, 0)", x.load(0, 1, 0), NONE);
            Due.due("load(0, 8, 0)", x.load(0, 8, 0), BAD_ARG);
            if (round == 1) {
                Due.due("one()", x.one(), TOO_FEW);
            }
            if (round < 3) {
                Due.due("two()", x.two(), TOO_FEW);
            }
            Due.due("leaf(0) number " + round, x.leaf(0), round);
        }
        refuseAll(x, "12 leaves with refused calls between");
    }

    private static void onlyDiscardAndLoadMakeRoom() {
        Due.sentence("Promise 6: emptied by a call of discard or load: by no other call");
        TreeLanguages x = new TreeLanguages();
        takeAll(x, "010101333332");
        x.size();
        x.letter(0);
        x.rank();
        x.states(0);
        x.runs(0);
        x.count(6, 7);
        x.least(6);
        x.finals(0, 15);
        refuseAll(x, "one tree of 12");
        Due.due("load(6, 7, 382)", x.load(6, 7, 382), NONE);
        Due.due("load(6, 8, 0)", x.load(6, 8, 0), BAD_ARG);
        Due.due("load(7, 7, 0)", x.load(7, 7, 0), BAD_ARG);
        refuseAll(x, "one tree of 12 after refused loads");
    }

    private static void leafAnswersTheNumber() {
        Due.sentence("Promise 6: Otherwise the number on the stack");
        TreeLanguages x = new TreeLanguages();
        for (int number = 1; number <= 12; number++) {
            Due.due("leaf(1)", x.leaf(1), number);
        }
        x.discard();
        Due.due("leaf(1) after discard", x.leaf(1), 1);
        x.load(6, 7, 0);
        Due.due("leaf(1) after load", x.leaf(1), 2);
    }

    private static void oneWhenFull() {
        Due.sentence("Promise 7: FULL as for leaf");
        for (Situation situation : Situation.values()) {
            if (situation.isFull()) {
                Refusal.in(situation, "one()", FULL, TreeLanguages::one);
            }
        }
        TreeLanguages x = Situation.ONE_TREE_OF_11.reach();
        Due.due("one() with 11 made", x.one(), 1);
        Due.due("one() with 12 made", x.one(), FULL);
    }

    private static void oneOnAnEmptyStack() {
        Due.sentence("Promise 7: an empty stack answers TOO_FEW");
        Refusal.in(Situation.NEW_OBJECT, "one()", TOO_FEW, TreeLanguages::one);
        Refusal.in(Situation.EMPTIED, "one()", TOO_FEW, TreeLanguages::one);
    }

    /** No calls lead to an empty stack with 12 made, so that the order shows in a state set by hand alone. */
    private static void oneTestsFullFirst() {
        Due.sentence("Promise 7: Tested in this order");
        TreeLanguages x = new TreeLanguages();
        Held.set(x, "made", 11);
        Due.due("one() on an empty stack with 11 made", x.one(), TOO_FEW);
        Held.set(x, "made", 12);
        Due.due("one() on an empty stack with 12 made", x.one(), FULL);
    }

    private static void oneOnOneTree() {
        Due.sentence("Promise 7: Otherwise the number on the stack");
        for (int number = 1; number <= 11; number++) {
            TreeLanguages x = new TreeLanguages();
            takeAll(x, "00000000000".substring(0, number));
            Due.due("one() on " + number, x.one(), number);
            Due.holds("20 was made", Due.written(x).equals("20"));
            Due.due("discard()", x.discard(), number);
        }
        TreeLanguages x = Situation.LOADED.reach();
        Due.due("one() on a loaded tree", x.one(), 1);
        Due.due("size()", x.size(), 8);
    }

    private static void twoWhenFull() {
        Due.sentence("Promise 8: FULL as for leaf");
        for (Situation situation : Situation.values()) {
            if (situation.isFull()) {
                Refusal.in(situation, "two()", FULL, TreeLanguages::two);
            }
        }
        TreeLanguages x = Situation.TWO_TREES_OF_11.reach();
        Due.due("two() with 11 made", x.two(), 1);
        Due.due("size()", x.size(), 12);
        Due.due("two() with 12 made", x.two(), FULL);
    }

    private static void fullComesBeforeTooFew() {
        Due.sentence("Promise 8: Tested in this order");
        Due.due("two() on one tree with 11 made", Situation.ONE_TREE_OF_11.reach().two(), TOO_FEW);
        Due.due("two() on one tree with 12 made", Situation.ONE_TREE_OF_12.reach().two(), FULL);
        TreeLanguages x = Situation.LOADED.reach();
        for (int made = Situation.LOADED_SIZE; made < 12; made++) {
            Due.due("two() on a loaded tree with " + made + " made", x.two(), TOO_FEW);
            Due.due("one()", x.one(), 1);
        }
        Due.due("two() on a loaded tree with 12 made", x.two(), FULL);
    }

    private static void twoOnFewerThanTwo() {
        Due.sentence("Promise 8: fewer than two answers TOO_FEW");
        for (Situation situation : Situation.values()) {
            if (!situation.isFull() && !situation.hasTwoTrees()) {
                Refusal.in(situation, "two()", TOO_FEW, TreeLanguages::two);
            }
        }
    }

    private static void twoOnTwoTrees() {
        Due.sentence("Promise 8: Otherwise the number on the stack");
        for (int number = 2; number <= 11; number++) {
            TreeLanguages x = new TreeLanguages();
            takeAll(x, "00000000000".substring(0, number));
            Due.due("two() on " + number, x.two(), number - 1);
            Due.holds("300 was made", Due.written(x).equals("300"));
            Due.due("discard()", x.discard(), number - 1);
        }
    }

    private static void lowerTreeIsFirst() {
        Due.sentence("Promise 8: the lower one of them as first child and the topmost one as second");
        TreeLanguages x = new TreeLanguages();
        takeAll(x, "01" + "2");
        Due.due("two()", x.two(), 1);
        Due.holds("3021 was made", Due.written(x).equals("3021"));
        takeAll(x, "1");
        Due.due("two()", x.two(), 1);
        Due.holds("330211 was made", Due.written(x).equals("330211"));
        x.load(6, 3, 4);
        takeAll(x, "0");
        Due.due("two()", x.two(), 1);
        Due.holds("33100 was made", Due.written(x).equals("33100"));
    }

    private static void discardAnswersHowMany() {
        Due.sentence("Promise 9: answers how many there were");
        for (int number = 0; number <= 12; number++) {
            TreeLanguages x = new TreeLanguages();
            takeAll(x, "010101010101".substring(0, number));
            x.leaf(2);
            Due.due("discard() of " + number, x.discard(), number);
            Due.due("discard() again", x.discard(), 0);
        }
        Due.due("discard() of one tree of 12", Situation.ONE_TREE_OF_12.reach().discard(), 1);
        Due.due("discard() of a loaded tree", Situation.LOADED.reach().discard(), 1);
        Due.due("discard() of a loaded tree and 5", Situation.LOADED_AND_FULL.reach().discard(), 6);
    }

    private static void discardEmptiesTheStack() {
        Due.sentence("Promise 9: Empties the stack");
        for (Situation situation : Situation.values()) {
            TreeLanguages x = situation.reach();
            x.discard();
            Due.due("size() after discard in " + situation, x.size(), NONE);
            Due.due("one() after discard in " + situation, x.one(), TOO_FEW);
            Due.due("two() after discard in " + situation, x.two(), TOO_FEW);
            takeAll(x, "000000000000");
            Due.due("leaf(0) with 12 made in " + situation, x.leaf(0), FULL);
        }
    }

    private static void takeAll(TreeLanguages x, String steps) {
        for (int i = 0; i < steps.length(); i++) {
            char what = steps.charAt(i);
            int answer = what == '3' ? x.two() : what == '2' ? x.one() : x.leaf(what - '0');
            Due.holds("letter " + i + " of " + steps + " is taken, not " + answer, answer >= 1);
        }
    }

    private static void refuseAll(TreeLanguages x, String when) {
        refuse(x, "leaf(0) after " + when, y -> y.leaf(0));
        refuse(x, "leaf(1) after " + when, y -> y.leaf(1));
        refuse(x, "one() after " + when, TreeLanguages::one);
        refuse(x, "two() after " + when, TreeLanguages::two);
    }

    private static void refuse(TreeLanguages x, String call, ToIntFunction<TreeLanguages> made) {
        String before = Due.written(x);
        Due.due(call, made.applyAsInt(x), FULL);
        Due.holds(call + " leaves the topmost tree", Due.written(x).equals(before));
    }
}
