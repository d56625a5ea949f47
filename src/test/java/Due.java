/** Gathers the answers that are not as due, for the tests beside it. */
final class Due {
    private static String sentence = "";
    private static int checkedBefore = 0;
    private static int checked = 0;
    private static int wrong = 0;

    private Due() {
    }

    /** Names the words of the document that the calls after it are held to. */
    static void sentence(String words) {
        endSentence();
        sentence = words;
        checkedBefore = checked;
    }

    static void due(String call, long got, long want) {
        checked++;
        if (got != want) {
            tell(call + " answered " + got + ", due is " + want);
        }
    }

    static void holds(String what, boolean so) {
        checked++;
        if (!so) {
            tell("does not hold: " + what);
        }
    }

    /** Every test's last call; a test that checked nothing fails too. */
    static void end() {
        endSentence();
        System.out.println(checked + " answers looked at, " + wrong + " not as due");
        if (wrong != 0 || checked == 0) {
            System.exit(1);
        }
    }

    /** Pushes a tree that is written as its top letter, then its first child, then its second one. */
    static void push(TreeLanguages x, String written) {
        String calls = Model.childrenFirst(written);
        // A slip in a test would else go unseen: what is written must be one tree.
        holds(written + " is a tree", calls.length() == written.length());
        for (int i = 0; i < calls.length(); i++) {
            char letter = calls.charAt(i);
            int answer = letter == '3' ? x.two() : letter == '2' ? x.one() : x.leaf(letter - '0');
            if (answer < 1) {
                due("pushing " + written + " at letter " + i, answer, 1);
            }
        }
    }

    /** The topmost tree as size and letter tell it. */
    static String written(TreeLanguages x) {
        StringBuilder letters = new StringBuilder();
        int size = x.size();
        for (int i = 0; i < size; i++) {
            letters.append(x.letter(i));
        }
        return letters.toString();
    }

    private static void tell(String what) {
        wrong++;
        System.out.println(sentence.isEmpty() ? what : what + " (\"" + sentence + "\")");
    }

    /** A sentence that nothing was held to is a test that is missing. */
    private static void endSentence() {
        if (!sentence.isEmpty() && checked == checkedBefore) {
            tell("nothing was looked at");
        }
    }
}
