/** Long runs of calls, all promises together, each answer compared with the model's. */
public final class ModelTest {
    private static final int RUNS = 300;
    // The document promises nothing after the 512th call.
    private static final int CALLS = 512;

    private final TreeLanguages x = new TreeLanguages();
    private final Model model = new Model();
    private final int run;
    private long number;

    private ModelTest(int run) {
        this.run = run;
        this.number = run * 7919L + 17;
    }

    public static void main(String[] args) {
        for (int run = 0; run < RUNS; run++) {
            ModelTest test = new ModelTest(run);
            for (int call = 0; call < CALLS; call++) {
                test.step(call);
            }
        }
        Due.end();
    }

    /** The next number below the bound: made here, so that every run of the test is the same. */
    private int below(int bound) {
        number = number * 6364136223846793005L + 1442695040888963407L;
        return (int) ((number >>> 33) % bound);
    }

    /** Mostly from 0 to the greatest one, now and then outside. */
    private int upTo(int greatest) {
        if (below(30) != 0) {
            return below(greatest + 1);
        }
        int[] outside = {-1, greatest + 1, greatest + 2, -7, Integer.MIN_VALUE, Integer.MAX_VALUE};
        return outside[below(outside.length)];
    }

    /** Runs differ in how many states their sets have. */
    private int set() {
        return run % 3 == 0 ? upTo(15) & (below(8) == 0 ? -1 : below(16)) : upTo(15);
    }

    private void step(int call) {
        int what = call < 60 ? below(5) : below(40);
        if (what < 5) {
            changeRules(what);
        } else if (what < 24) {
            changeStack(what);
        } else {
            ask(what);
        }
    }

    private void changeRules(int what) {
        int m = upTo(1);
        int set = set();
        if (what == 0) {
            int letter = upTo(1);
            due("leafRule", x.leafRule(m, letter, set), model.leafRule(m, letter, set), m, letter, set);
        } else if (what == 1) {
            int p = upTo(3);
            due("oneRule", x.oneRule(m, p, set), model.oneRule(m, p, set), m, p, set);
        } else if (what == 2) {
            due("finals", x.finals(m, set), model.finals(m, set), m, set);
        } else {
            int pair = upTo(15);
            due("twoRule", x.twoRule(m, pair, set), model.twoRule(m, pair, set), m, pair, set);
        }
    }

    private void changeStack(int what) {
        if (what < 11) {
            int letter = upTo(1);
            due("leaf", x.leaf(letter), model.leaf(letter), letter);
        } else if (what < 15) {
            due("one", x.one(), model.one());
        } else if (what < 21) {
            due("two", x.two(), model.two());
        } else if (what < 22) {
            due("discard", x.discard(), model.discard());
        } else {
            int kind = upTo(6);
            int n = 1 + below(8) - (below(30) == 0 ? 2 : 0);
            int most = Math.max(1, model.count(kind, n));
            int k = below(8) == 0 ? upTo(most) : below(most);
            due("load", x.load(kind, n, k), model.load(kind, n, k), kind, n, k);
        }
    }

    private void ask(int what) {
        int m = upTo(1);
        int kind = upTo(6);
        if (what < 26) {
            due("size", x.size(), model.size());
        } else if (what < 28) {
            due("rank", x.rank(), model.rank());
        } else if (what < 31) {
            int i = upTo(11);
            due("letter", x.letter(i), model.letter(i), i);
        } else if (what < 34) {
            due("states", x.states(m), model.states(m), m);
        } else if (what < 37) {
            due("runs", x.runs(m), model.runs(m), m);
        } else if (what < 39) {
            int n = 1 + upTo(6);
            due("count", x.count(kind, n), model.count(kind, n), kind, n);
        } else {
            due("least", x.least(kind), model.least(kind), kind);
        }
    }

    private void due(String name, int got, int want, int... args) {
        if (got != want) {
            Due.due("run " + run + ": " + name + java.util.Arrays.toString(args), got, want);
        } else {
            Due.due(name, got, want);
        }
    }
}
