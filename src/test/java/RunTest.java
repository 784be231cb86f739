/**
 * Long runs of mixed calls on one object: settings set again, flips, wrong calls, and questions between them.
 * Each answer is the one that the model gives for the state at that call.
 */
public final class RunTest {
    private static final int RUNS = 150;
    private static final int CALLS = 512;

    private final ParametricCut cut = new ParametricCut();
    private final Model model = new Model();
    private final int run;
    private final int mostBase;
    private final int mostCapacity;
    private final int[] xs = new int[3];
    private long state;
    private String call;

    private RunTest(int run) {
        this.run = run;
        state = run;
        // Small numbers make ties common.
        mostBase = run % 3 == 0 ? 4 : 40;
        mostCapacity = run % 2 == 0 ? 3 : 20;
        for (int k = 0; k < xs.length; k++) {
            xs[k] = next(51);
        }
    }

    public static void main(String[] args) {
        for (int run = 1; run <= RUNS; run++) {
            RunTest test = new RunTest(run);
            for (int k = 1; k <= CALLS; k++) {
                test.oneCall(k);
            }
        }
        Check.end();
    }

    /** A fixed row of numbers, so that every run makes the same calls. */
    private int next(int bound) {
        state = state * 6364136223846793005L + 1442695040888963407L;
        return (int) ((state >>> 33) % bound);
    }

    private void oneCall(int k) {
        call = "run " + run + ", call " + k + ": ";
        // The first calls mostly fill the object, the later ones mostly ask.
        if (next(10) < (k < 40 ? 8 : 3)) {
            setting();
        } else {
            question();
        }
    }

    private void setting() {
        int kind = next(7);
        if (kind < 2) {
            int u = node();
            int v = node();
            int capacity = number(0, mostCapacity, Edges.NOT_CAPACITIES);
            due("link", model.link(u, v, capacity), cut.link(u, v, capacity), u, v, capacity);
        } else if (kind < 6) {
            int v = node();
            int base = number(0, mostBase, Edges.NOT_BASES);
            int slope = number(-2, 2, Edges.NOT_SLOPES);
            if (kind < 4) {
                due("toSource", model.toSource(v, base, slope), cut.toSource(v, base, slope), v, base, slope);
            } else {
                due("toSink", model.toSink(v, base, slope), cut.toSink(v, base, slope), v, base, slope);
            }
        } else {
            model.flip();
            cut.flip();
        }
    }

    private void question() {
        int x = x();
        switch (next(9)) {
            case 0 -> {
                int side = next(4) == 0 ? next(Integer.MAX_VALUE) - next(Integer.MAX_VALUE) : next(128);
                due("cost", model.cost(side, x), cut.cost(side, x), side, x);
            }
            case 1 -> due("least", model.least(x), cut.least(x), x);
            case 2 -> due("always", model.always(x), cut.always(x), x);
            case 3 -> due("ever", model.ever(x), cut.ever(x), x);
            case 4 -> due("ties", model.ties(x), cut.ties(x), x);
            case 5 -> due("stages", model.stages(), cut.stages());
            case 6 -> due("worst", model.worst(), cut.worst());
            case 7 -> {
                int u = node();
                int v = node();
                due("spare", model.spare(u, v, x), cut.spare(u, v, x), u, v, x);
            }
            default -> {
                int u = node();
                int v = node();
                int want = model.separates(u, v, x) ? 1 : 0;
                due("separates", want, cut.separates(u, v, x) ? 1 : 0, u, v, x);
            }
        }
    }

    private int node() {
        return number(0, 6, Edges.NOT_NODES);
    }

    /** A few numbers come back, so that the same is asked before and after a setting. */
    private int x() {
        return next(3) == 0 ? number(0, 50, Edges.NOT_XS) : xs[next(xs.length)];
    }

    private int number(int low, int high, int[] wrong) {
        return next(20) == 0 ? wrong[next(wrong.length)] : low + next(high - low + 1);
    }

    private void due(String name, int want, int got, int... arguments) {
        Check.due(call + name + java.util.Arrays.toString(arguments), got, want);
    }
}
