import java.util.function.ToIntFunction;

/** What "What it is" and "Terms" promise of every call, a sentence at a time. */
public final class TermsTest {
    private static final int BAD_ARG = -1;
    private static final int FULL = -2;
    private static final int TOO_FEW = -3;
    private static final int NONE = -4;

    private static final int[] ANY = {0, 1, 3, 7, 15, 16, -1, -4, 12, 381, 1 << 28, 1 << 30,
        Integer.MIN_VALUE, Integer.MAX_VALUE};

    public static void main(String[] args) {
        changesWouldBeSeen();
        changesWouldBeSeenInside();
        workingSpaceIsNotHeld();
        askingChangesNothing();
        refusedCallsUpToThe512th();
        stackCallsUpToThe512th();
        loadsUpToThe512th();
        ruleCallsUpToThe512th();
        treesInTheirOrder();
        runsNeedEveryLetter();
        acceptsByOneRun();
        kindsOfATree();
        wrongAutomata();
        wrongKinds();
        wrongKindComesFirst();
        noCallThrows();
        noCallThrowsLaterOn();
        Due.end();
    }

    /** Else a look that misses something would let every refused call pass. */
    private static void changesWouldBeSeen() {
        Due.sentence("A refused call .. changes nothing: a call that is not refused is seen");
        for (Situation situation : new Situation[] {Situation.THREE_TREES, Situation.LOADED}) {
            seen(situation, "leaf(0)", x -> x.leaf(0));
            seen(situation, "leaf(1)", x -> x.leaf(1));
            seen(situation, "one()", TreeLanguages::one);
            seen(situation, "leaf(0) and two()", x -> x.leaf(0) + x.two());
            seen(situation, "discard()", TreeLanguages::discard);
            seen(situation, "load(6, 1, 0)", x -> x.load(6, 1, 0));
            for (int i = 0; i < 2; i++) {
                int m = i;
                for (int j = 0; j < 16; j++) {
                    int place = j;
                    seen(situation, "twoRule " + m + " " + place, x -> x.twoRule(m, place, 15 - x.twoRule(m, place, 0)));
                    seen(situation, "oneRule " + m, x -> x.oneRule(m, place % 4, 15 - x.oneRule(m, place % 4, 0)));
                    seen(situation, "leafRule " + m, x -> x.leafRule(m, place % 2, 15 - x.leafRule(m, place % 2, 0)));
                }
                seen(situation, "finals " + m, x -> x.finals(m, 15 - x.finals(m, 0)));
            }
        }
        seen(Situation.THREE_TREES, "two()", TreeLanguages::two);
    }

    private static void seen(Situation situation, String call, ToIntFunction<TreeLanguages> made) {
        Due.holds(call + " is seen in " + situation, Refusal.changes(situation, made));
    }

    private static void askingChangesNothing() {
        Due.sentence("Nothing is promised beyond the answers and state changes described: asking changes nothing");
        for (Situation situation : Situation.values()) {
            Due.holds("asking changes nothing in " + situation, !Refusal.changes(situation, TermsTest::askAll));
        }
    }

    /** Else a look inside that misses something would let every refused call pass. */
    private static void changesWouldBeSeenInside() {
        Due.sentence("A refused call .. changes nothing: a change that no call can tell is seen");
        insideDiffers("the lowest of 12 leaves", "000000000000", "100000000000");
        insideDiffers("the lower one of two trees of 12 letters", "013" + "122222222", "103" + "122222222");
        insideDiffers("a letter of the lower one", "00223" + "1222222", "02023" + "1222222");
    }

    private static void insideDiffers(String what, String steps, String otherSteps) {
        TreeLanguages x = new TreeLanguages();
        TreeLanguages y = new TreeLanguages();
        Situation.takeAll(x, steps);
        Situation.takeAll(y, steps);
        Due.holds("inside nothing differs: " + what, Held.same(x, y));
        y = new TreeLanguages();
        Situation.takeAll(y, otherSteps);
        Due.holds("inside this differs: " + what, !Held.same(x, y));
    }

    /** The look inside leaves it out, so that no answer may hang on what an earlier call left there. */
    private static void workingSpaceIsNotHeld() {
        Due.sentence("A refused call .. changes nothing: no answer hangs on the working space");
        for (int i = 0; i < 2; i++) {
            int m = i;
            sameWhenSpoilt("states(" + m + ")", x -> x.states(m));
            sameWhenSpoilt("runs(" + m + ")", x -> x.runs(m));
        }
        for (int i = 0; i < 7; i++) {
            int kind = i;
            sameWhenSpoilt("least(" + kind + ")", x -> x.least(kind));
            for (int j = 1; j <= 7; j++) {
                int n = j;
                sameWhenSpoilt("count(" + kind + ", " + n + ")", x -> x.count(kind, n));
                sameWhenSpoilt("rank() after load(" + kind + ", " + n + ", 1)", x -> x.load(kind, n, 1) + x.rank());
            }
        }
    }

    private static void sameWhenSpoilt(String call, ToIntFunction<TreeLanguages> made) {
        for (Situation situation : Situation.values()) {
            TreeLanguages x = situation.reach();
            Held.spoilWorkingSpace(x);
            Due.due(call + " with it spoilt in " + situation, made.applyAsInt(x), made.applyAsInt(situation.reach()));
        }
    }

    private static int askAll(TreeLanguages x) {
        int sum = x.size() + x.letter(0) + x.letter(6) + x.rank();
        for (int m = 0; m < 2; m++) {
            sum += x.states(m) + x.runs(m);
        }
        for (int kind = 0; kind < 7; kind++) {
            sum += x.least(kind) + x.count(kind, 1) + x.count(kind, 7);
        }
        return sum;
    }

    private static void refusedCallsUpToThe512th() {
        Due.sentence("An object is used for at most 512 calls: 511 refused ones come first");
        TreeLanguages x = new TreeLanguages();
        for (int call = 0; call < 511; call++) {
            Due.due("refused call " + call, refused(x, call % 14), due(call % 14));
        }
        Due.due("leaf(0), the 512th call", x.leaf(0), 1);
    }

    private static int refused(TreeLanguages x, int which) {
        switch (which) {
            case 0:
                return x.leafRule(0, 2, 1);
            case 1:
                return x.oneRule(0, 4, 1);
            case 2:
                return x.twoRule(0, 16, 1);
            case 3:
                return x.finals(0, 16);
            case 4:
                return x.leaf(2);
            case 5:
                return x.one();
            case 6:
                return x.two();
            case 7:
                return x.size();
            case 8:
                return x.letter(0);
            case 9:
                return x.rank();
            case 10:
                return x.states(0);
            case 11:
                return x.runs(0);
            case 12:
                return x.least(0);
            default:
                return x.load(0, 7, 0);
        }
    }

    private static int due(int which) {
        return which < 5 ? BAD_ARG : which < 7 ? TOO_FEW : NONE;
    }

    /** With 39 calls a round the last round is cut off, and the 512th call is in its midst. */
    private static void stackCallsUpToThe512th() {
        Due.sentence("An object is used for at most 512 calls: the stack is filled and emptied");
        TreeLanguages x = new TreeLanguages();
        for (int call = 0; call < 512; call++) {
            int step = call % 39;
            if (step < 12) {
                Due.due("leaf(1), call " + call, x.leaf(1), step + 1);
            } else if (step < 25) {
                Due.due("leaf(0), call " + call, x.leaf(0), FULL);
            } else if (step == 25) {
                Due.due("discard(), call " + call, x.discard(), 12);
            } else if (step == 26) {
                Due.due("leaf(0), call " + call, x.leaf(0), 1);
            } else if (step < 38) {
                Due.due("one(), call " + call, x.one(), 1);
            } else {
                Due.due("discard(), call " + call, x.discard(), 1);
            }
        }
    }

    private static void loadsUpToThe512th() {
        Due.sentence("An object is used for at most 512 calls: trees are loaded and built upon");
        TreeLanguages x = new TreeLanguages();
        for (int call = 0; call < 512; call++) {
            int step = call % 8;
            if (step == 0) {
                Due.due("load(6, 7, 381), call " + call, x.load(6, 7, 381), 0);
            } else if (step < 6) {
                Due.due("one(), call " + call, x.one(), 1);
            } else if (step == 6) {
                Due.due("one(), call " + call, x.one(), FULL);
            } else {
                Due.due("rank(), call " + call, x.rank(), 381);
            }
        }
    }

    private static void ruleCallsUpToThe512th() {
        Due.sentence("An object is used for at most 512 calls: rules are changed and read");
        TreeLanguages x = new TreeLanguages();
        x.leaf(0);
        for (int call = 1; call + 1 < 512; call += 2) {
            int set = call / 2 % 16;
            Due.due("leafRule(1, 0, " + set + "), call " + call, x.leafRule(1, 0, set), call == 1 ? 0 : (set + 15) % 16);
            Due.due("states(1), call " + (call + 1), x.states(1), set);
        }
        Due.due("leafRule(1, 0, 0), the 512th call", x.leafRule(1, 0, 0), 254 % 16);
    }

    private static void treesInTheirOrder() {
        Due.sentence("TREES ARE ORDERED");
        inOrder("0", "1");
        inOrder("20", "21");
        inOrder("220", "221", "300", "301", "310", "311");
        inOrder("2220", "2221", "2300", "2301", "2310", "2311", "3020", "3021", "3120", "3121",
                "3200", "3201", "3210", "3211");
        inOrder("22220", "22221", "22300", "22301", "22310", "22311", "23020", "23021", "23120", "23121",
                "23200", "23201", "23210", "23211", "30220", "30221", "30300", "30301", "30310", "30311",
                "31220", "31221", "31300", "31301", "31310", "31311", "32020", "32021", "32120", "32121",
                "32200", "32201", "32210", "32211", "33000", "33001", "33010", "33011", "33100", "33101",
                "33110", "33111");
    }

    /** The trees are all those of their size. */
    private static void inOrder(String... trees) {
        int n = trees[0].length();
        TreeLanguages x = new TreeLanguages();
        Due.due("count(6, " + n + ")", x.count(6, n), trees.length);
        for (int k = 0; k < trees.length; k++) {
            x.discard();
            Due.push(x, trees[k]);
            Due.due("rank() of " + trees[k], x.rank(), k);
        }
        for (int k = 0; k < trees.length; k++) {
            TreeLanguages y = new TreeLanguages();
            Due.due("load(6, " + n + ", " + k + ")", y.load(6, n, k), 0);
            Due.holds(trees[k] + " is the tree that is loaded", Due.written(y).equals(trees[k]));
            Due.due("rank() of the loaded " + trees[k], y.rank(), k);
        }
    }

    private static void runsNeedEveryLetter() {
        Due.sentence("A RUN on a tree gives every leaf and node a state that it may have");
        TreeLanguages x = new TreeLanguages();
        x.leafRule(0, 0, 1);
        x.twoRule(0, 0, 15);
        x.finals(0, 15);
        for (String tree : new String[] {"301", "310", "311", "3020", "3200"}) {
            x.discard();
            Due.push(x, tree);
            Due.due("states(0) of " + tree, x.states(0), 0);
            Due.due("runs(0) of " + tree, x.runs(0), 0);
        }
        x.discard();
        Due.push(x, "300");
        Due.due("states(0) of 300", x.states(0), 15);
        Due.due("runs(0) of 300", x.runs(0), 4);
        Due.due("count(0, 3)", x.count(0, 3), 1);
    }

    private static void acceptsByOneRun() {
        Due.sentence("An automaton ACCEPTS a tree if there is a run that gives its top a final state");
        TreeLanguages x = new TreeLanguages();
        x.leafRule(0, 0, 15);
        for (int q = 0; q < 4; q++) {
            x.finals(0, 1 << q);
            Due.due("count(0, 1) with " + q + " final", x.count(0, 1), 1);
        }
        x.leafRule(0, 0, 7);
        Due.due("count(0, 1) with a final state that no run gives", x.count(0, 1), 0);
        x.finals(0, 0);
        Due.due("count(0, 1) with no final state", x.count(0, 1), 0);
    }

    /** Which kinds the leaf 0 has, when none, automaton 0, automaton 1 or both accept it. */
    private static void kindsOfATree() {
        Due.sentence("KINDS of trees");
        int[][] due = {{0, 0, 0, 0, 0, 1, 1}, {1, 0, 0, 1, 1, 0, 1}, {0, 1, 0, 1, 0, 0, 1}, {1, 1, 1, 1, 0, 0, 1}};
        for (int by = 0; by < 4; by++) {
            for (int kind = 0; kind < 7; kind++) {
                TreeLanguages x = acceptedBy(by);
                String call = "(" + kind + ", 1, 0) of a leaf that " + by + " tells who accepts";
                // Leaf 1 is accepted by none, so that it has the kinds 5 and 6 alone.
                Due.due("count" + call, x.count(kind, 1), due[by][kind] + due[0][kind]);
                boolean has = due[by][kind] == 1;
                Due.due("load" + call, x.load(kind, 1, 0), has || due[0][kind] == 1 ? 0 : NONE);
                Due.due("letter after load" + call, x.letter(0), has ? 0 : due[0][kind] == 1 ? 1 : NONE);
            }
        }
    }

    private static TreeLanguages acceptedBy(int by) {
        TreeLanguages x = new TreeLanguages();
        for (int m = 0; m < 2; m++) {
            x.finals(m, 4);
            x.leafRule(m, 0, (by >> m & 1) == 1 ? 4 : 8);
        }
        return x;
    }

    private static void wrongAutomata() {
        Due.sentence("In every call an automaton m that is not 0 or 1 .. answers BAD_ARG, tested first");
        for (int m : Refusal.outside(0, 1)) {
            Refusal.everywhere("leafRule(" + m + ", 1, 8)", BAD_ARG, x -> x.leafRule(m, 1, 8));
            Refusal.everywhere("oneRule(" + m + ", 3, 4)", BAD_ARG, x -> x.oneRule(m, 3, 4));
            Refusal.everywhere("twoRule(" + m + ", 15, 2)", BAD_ARG, x -> x.twoRule(m, 15, 2));
            Refusal.everywhere("finals(" + m + ", 2)", BAD_ARG, x -> x.finals(m, 2));
            Refusal.everywhere("states(" + m + ")", BAD_ARG, x -> x.states(m));
            Refusal.everywhere("runs(" + m + ")", BAD_ARG, x -> x.runs(m));
            Due.due("leafRule(" + m + ", 2, 16)", new TreeLanguages().leafRule(m, 2, 16), BAD_ARG);
            Due.due("oneRule(" + m + ", 4, 16)", new TreeLanguages().oneRule(m, 4, 16), BAD_ARG);
            Due.due("twoRule(" + m + ", 16, 16)", new TreeLanguages().twoRule(m, 16, 16), BAD_ARG);
            Due.due("finals(" + m + ", 16)", new TreeLanguages().finals(m, 16), BAD_ARG);
        }
    }

    private static void wrongKinds() {
        Due.sentence("a kind that is not 0 to 6, answers BAD_ARG");
        for (int kind : Refusal.outside(0, 6)) {
            Refusal.everywhere("count(" + kind + ", 1)", BAD_ARG, x -> x.count(kind, 1));
            Refusal.everywhere("count(" + kind + ", 7)", BAD_ARG, x -> x.count(kind, 7));
            Refusal.everywhere("least(" + kind + ")", BAD_ARG, x -> x.least(kind));
            Refusal.everywhere("load(" + kind + ", 1, 0)", BAD_ARG, x -> x.load(kind, 1, 0));
            Refusal.everywhere("load(" + kind + ", 7, 0)", BAD_ARG, x -> x.load(kind, 7, 0));
        }
        for (int kind = 0; kind < 7; kind++) {
            Due.holds("kind " + kind + " is one for count", new TreeLanguages().count(kind, 1) >= 0);
            Due.holds("kind " + kind + " is one for least", new TreeLanguages().least(kind) != BAD_ARG);
            Due.holds("kind " + kind + " is one for load", new TreeLanguages().load(kind, 1, 0) != BAD_ARG);
        }
    }

    private static void wrongKindComesFirst() {
        Due.sentence("a kind that is not 0 to 6, answers BAD_ARG, tested first");
        for (int kind : Refusal.outside(0, 6)) {
            for (int k : new int[] {-1, 2, Integer.MIN_VALUE, Integer.MAX_VALUE}) {
                Refusal.everywhere("load(" + kind + ", 1, " + k + ")", BAD_ARG, x -> x.load(kind, 1, k));
            }
            Due.due("count(" + kind + ", 0)", new TreeLanguages().count(kind, 0), BAD_ARG);
            Due.due("count(" + kind + ", 8)", new TreeLanguages().count(kind, 8), BAD_ARG);
            Due.due("load(" + kind + ", 8, -1)", new TreeLanguages().load(kind, 8, -1), BAD_ARG);
        }
    }

    private static void noCallThrows() {
        Due.sentence("No call ever throws");
        for (Situation situation : Situation.values()) {
            for (int a : ANY) {
                for (int b : ANY) {
                    TreeLanguages x = situation.reach();
                    String with = " with " + a + ", " + b + " in " + situation;
                    Due.holds("nothing is thrown" + with, throwsNothing(() -> callAll(x, a, b)));
                }
            }
        }
    }

    /** What is answered after the 512th call is free, but LANGUAGE.md lets no call throw then either. */
    private static void noCallThrowsLaterOn() {
        Due.sentence("No call ever throws: not after the 512th either");
        TreeLanguages x = new TreeLanguages();
        for (int a : ANY) {
            for (int b : ANY) {
                Due.holds("nothing is thrown with " + a + ", " + b, throwsNothing(() -> callAll(x, a, b)));
            }
        }
    }

    private static boolean throwsNothing(Runnable calls) {
        try {
            calls.run();
            return true;
        } catch (Throwable thrown) {
            System.out.println(thrown);
            return false;
        }
    }

    private static void callAll(TreeLanguages x, int a, int b) {
        x.size();
        x.rank();
        x.letter(a);
        x.states(a);
        x.runs(a);
        x.one();
        x.two();
        x.leaf(a);
        x.leafRule(a, b, b);
        x.oneRule(a, b, b);
        x.twoRule(a, b, b);
        x.leafRule(1, a, b);
        x.oneRule(1, a, b);
        x.twoRule(1, a, b);
        x.finals(a, b);
        x.states(b);
        x.runs(b);
        x.count(a, b);
        x.least(a);
        x.load(a, b, b);
        x.load(6, a, b);
        x.load(b, 7, a);
        x.letter(b);
        x.leaf(b);
        x.one();
        x.two();
        if (a == b) {
            x.discard();
        }
    }
}
