import java.util.function.IntUnaryOperator;

/**
 * An object beside what it must hold. At first all its links differ from each other, and so do the pulls
 * to each end, so that a change of any one shows.
 */
final class Known {
    private static final int[] XS = {0, 1, 50};
    private static final int[] UNTOUCHED = answers(new Known().cut);

    final ParametricCut cut = new ParametricCut();
    final Model due = new Model();

    Known() {
        int pair = 0;
        for (int u = 0; u < 7; u++) {
            for (int v = u + 1; v < 7; v++) {
                link(u, v, (4 * pair + 7) % 21);
                pair++;
            }
        }
        for (int v = 0; v < 7; v++) {
            toSource(v, 40 - 5 * v, (v + 2) % 5 - 2);
            toSink(v, 4 + 6 * v, 2 - v % 5);
        }
    }

    int link(int u, int v, int capacity) {
        due.link(u, v, capacity);
        return cut.link(u, v, capacity);
    }

    int toSource(int v, int a, int b) {
        due.toSource(v, a, b);
        return cut.toSource(v, a, b);
    }

    int toSink(int v, int c, int d) {
        due.toSink(v, c, d);
        return cut.toSink(v, c, d);
    }

    void flip() {
        due.flip();
        cut.flip();
    }

    /** For an object that nothing was set in since it was made; takes it apart, as holds does. */
    void unchangedAfter(String call) {
        int[] now = answers(cut);
        for (int k = 0; k < now.length; k++) {
            Check.due("after " + call + ": question " + k, now[k], UNTOUCHED[k]);
        }
        holds("after " + call + ": ");
    }

    /** Looks at every link and pull by setting it to 0, so it is the last that can be asked of the object. */
    void holds(String when) {
        for (int u = 0; u < 7; u++) {
            for (int v = u + 1; v < 7; v++) {
                Check.due(when + "link " + u + " " + v, cut.link(u, v, 0), due.capacity(u, v));
            }
        }
        for (int v = 0; v < 7; v++) {
            int node = v;
            int[] before = costs(0);
            cut.toSource(v, 0, 0);
            lost(when + "pull to the source of " + v, before, costs(0), x -> due.sourcePull(node, x));
            before = costs(127);
            cut.toSink(v, 0, 0);
            lost(when + "pull to the sink of " + v, before, costs(127), x -> due.sinkPull(node, x));
        }
    }

    private static void lost(String name, int[] before, int[] after, IntUnaryOperator pull) {
        for (int k = 0; k < XS.length; k++) {
            Check.due(name + " at " + XS[k], before[k] - after[k], pull.applyAsInt(XS[k]));
        }
    }

    private int[] costs(int side) {
        int[] costs = new int[XS.length];
        for (int k = 0; k < XS.length; k++) {
            costs[k] = cut.cost(side, XS[k]);
        }
        return costs;
    }

    private static int[] answers(ParametricCut cut) {
        int[] answers = new int[29];
        int k = 0;
        for (int x : new int[] {0, 9, 50}) {
            answers[k++] = cut.cost(85, x);
            answers[k++] = cut.least(x);
            answers[k++] = cut.always(x);
            answers[k++] = cut.ever(x);
            answers[k++] = cut.ties(x);
            answers[k++] = cut.spare(0, 6, x);
            answers[k++] = cut.spare(3, 2, x);
            answers[k++] = cut.separates(0, 6, x) ? 1 : 0;
            answers[k++] = cut.separates(6, 0, x) ? 1 : 0;
        }
        answers[k++] = cut.stages();
        answers[k++] = cut.worst();
        return answers;
    }
}
