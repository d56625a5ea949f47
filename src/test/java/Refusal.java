import java.util.EnumMap;
import java.util.Map;
import java.util.function.ToIntFunction;

/** Holds calls to "A refused call answers the code named and changes nothing." */
final class Refusal {
    /** An object can be used up in so many ways, and each shows another side of it. */
    private static final int ENDINGS = 3;

    private static final Map<Situation, String[]> UNTOUCHED = new EnumMap<>(Situation.class);
    private static final Map<Situation, TreeLanguages> UNASKED = new EnumMap<>(Situation.class);

    private Refusal() {
    }

    /**
     * Values outside a range: next to its edges, the least and the greatest int, those
     * that a narrower type would take for inside ones, and those that give 0 when an
     * index is reckoned with them and the product wraps around.
     */
    static int[] outside(int low, int high) {
        return new int[] {low - 1, high + 1, low - 2, high + 2, low - 256, high + 256, low + 65536,
            1 << 28, 1 << 30, Integer.MIN_VALUE, Integer.MIN_VALUE + 1, Integer.MAX_VALUE - 1, Integer.MAX_VALUE};
    }

    /** The call is refused with the code in every situation. */
    static void everywhere(String call, int code, ToIntFunction<TreeLanguages> made) {
        for (Situation situation : Situation.values()) {
            in(situation, call, code, made);
        }
    }

    static void in(Situation situation, String call, int code, ToIntFunction<TreeLanguages> made) {
        String where = " in " + situation;
        for (int ending = 0; ending < ENDINGS; ending++) {
            TreeLanguages x = situation.reach();
            Due.due(call + where, made.applyAsInt(x), code);
            Due.holds(call + where + " changes nothing that is held", Held.same(x, unasked(situation)));
            String seen = seen(x, ending);
            Due.holds(call + where + " changes nothing: " + seen, seen.equals(untouched(situation)[ending]));
        }
    }

    /** Whether an object that the call was made on differs from one that it was not made on. */
    static boolean changes(Situation situation, ToIntFunction<TreeLanguages> made) {
        boolean differs = false;
        for (int ending = 0; ending < ENDINGS; ending++) {
            TreeLanguages x = situation.reach();
            made.applyAsInt(x);
            differs |= !seen(x, ending).equals(untouched(situation)[ending]);
        }
        return differs;
    }

    private static TreeLanguages unasked(Situation situation) {
        return UNASKED.computeIfAbsent(situation, Situation::reach);
    }

    private static String[] untouched(Situation situation) {
        return UNTOUCHED.computeIfAbsent(situation, key -> {
            String[] seen = new String[ENDINGS];
            for (int ending = 0; ending < ENDINGS; ending++) {
                seen[ending] = seen(key.reach(), ending);
            }
            return seen;
        });
    }

    /**
     * All that an object can be asked; it is used up by it, but stays within its 512 calls.
     * Each ending begins with other calls: were they the same ones, what they change when
     * they should not would look alike with the refused call before them and without it.
     */
    private static String seen(TreeLanguages x, int ending) {
        StringBuilder answers = new StringBuilder();
        if (ending == 0) {
            seeRules(x, answers);
            seeTopmost(x, answers);
            seeKinds(x, answers);
            seeRoom(x, answers);
        } else if (ending == 1) {
            seeTopmost(x, answers);
            seeTreesBelow(x, answers);
            seeRules(x, answers);
        } else {
            seeRoom(x, answers);
            answers.append(" held ").append(x.discard());
            seeRoom(x, answers);
            seeRules(x, answers);
        }
        return answers.toString();
    }

    private static void seeTopmost(TreeLanguages x, StringBuilder answers) {
        answers.append(" top ").append(Due.written(x)).append(' ').append(x.size()).append(' ').append(x.rank());
        for (int m = 0; m < 2; m++) {
            answers.append(' ').append(x.states(m)).append(' ').append(x.runs(m));
        }
    }

    private static void seeKinds(TreeLanguages x, StringBuilder answers) {
        answers.append(" kinds");
        for (int kind = 0; kind < 7; kind++) {
            answers.append(' ').append(x.least(kind)).append(' ').append(x.count(kind, 4));
        }
    }

    /** One leaf more than there can be room for, so that the refusal is seen as well. */
    private static void seeRoom(TreeLanguages x, StringBuilder answers) {
        answers.append(" room");
        for (int i = 0; i < 13; i++) {
            answers.append(' ').append(x.leaf(0));
        }
    }

    /** Puts all trees into one, as far as there is room; no more than that can ever be seen of them. */
    private static void seeTreesBelow(TreeLanguages x, StringBuilder answers) {
        answers.append(" below");
        for (int i = 0; i < 12; i++) {
            answers.append(' ').append(x.two()).append(' ').append(Due.written(x));
        }
    }

    /** A rule is told when another one takes its place, and is put back then. */
    private static void seeRules(TreeLanguages x, StringBuilder answers) {
        answers.append(" rules");
        for (int m = 0; m < 2; m++) {
            for (int letter = 0; letter < 2; letter++) {
                int set = x.leafRule(m, letter, 0);
                answers.append(' ').append(set).append(' ').append(x.leafRule(m, letter, set));
            }
            for (int p = 0; p < 4; p++) {
                int set = x.oneRule(m, p, 0);
                answers.append(' ').append(set).append(' ').append(x.oneRule(m, p, set));
            }
            for (int pair = 0; pair < 16; pair++) {
                int set = x.twoRule(m, pair, 0);
                answers.append(' ').append(set).append(' ').append(x.twoRule(m, pair, set));
            }
            int set = x.finals(m, 0);
            answers.append(' ').append(set).append(' ').append(x.finals(m, set));
        }
    }
}
