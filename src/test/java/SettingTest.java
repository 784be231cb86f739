/** Promises 1 to 5: a new object, link, toSource, toSink, flip. */
public final class SettingTest {
    private static final int BAD_NODE = -1;
    private static final int BAD_NUMBER = -2;
    private static final int[] BAD_NODES = {-1, 7, 8, -8, 49, Integer.MIN_VALUE, Integer.MAX_VALUE};

    public static void main(String[] args) {
        newObject();
        linkKeepsOnePerPair();
        linkRefusals();
        toSourceSets();
        toSinkSets();
        pullRefusals();
        flipExchanges();
        objectsAreApart();
        Check.end();
    }

    private static void newObject() {
        for (int x = 0; x <= 50; x++) {
            // An object is good for 512 calls only, so each x has one of its own.
            ParametricCut cut = new ParametricCut();
            for (int side = 0; side < 128; side++) {
                Check.due("new: cost(" + side + ", " + x + ")", cut.cost(side, x), 0);
            }
            Check.due("new: least(" + x + ")", cut.least(x), 0);
            Check.due("new: always(" + x + ")", cut.always(x), 0);
            Check.due("new: ever(" + x + ")", cut.ever(x), 127);
            Check.due("new: ties(" + x + ")", cut.ties(x), 128);
        }
        ParametricCut cut = new ParametricCut();
        Check.due("new: stages()", cut.stages(), 1);
        Check.due("new: worst()", cut.worst(), 0);
        Check.due("new: spare(0, 6, 50)", cut.spare(0, 6, 50), 0);
        Check.due("new: separates(6, 0, 50)", cut.separates(6, 0, 50), true);
        for (int u = 0; u < 7; u++) {
            for (int v = u + 1; v < 7; v++) {
                Check.due("new: link(" + u + ", " + v + ", 0)", cut.link(u, v, 0), 0);
            }
        }
    }

    private static void linkKeepsOnePerPair() {
        ParametricCut cut = new ParametricCut();
        int capacity = 0;
        for (int u = 0; u < 7; u++) {
            for (int v = u + 1; v < 7; v++) {
                Check.due("first link(" + u + ", " + v + ", " + capacity + ")", cut.link(u, v, capacity), 0);
                capacity++;
            }
        }
        // The 21 pairs now hold 0 to 20; each is asked for from its other node.
        capacity = 0;
        for (int u = 0; u < 7; u++) {
            for (int v = u + 1; v < 7; v++) {
                int turned = 20 - capacity;
                Check.due("second link(" + v + ", " + u + ", " + turned + ")", cut.link(v, u, turned), capacity);
                capacity++;
            }
        }
        Check.due("cost(1, 0) with links of node 0", cut.cost(1, 0), 20 + 19 + 18 + 17 + 16 + 15);
        Check.due("cost(64, 0) with links of node 6", cut.cost(64, 0), 15 + 10 + 6 + 3 + 1);
        Check.due("link(5, 6, 20)", cut.link(5, 6, 20), 0);
        Check.due("link(6, 5, 0)", cut.link(6, 5, 0), 20);
        Check.due("link(5, 6, 0)", cut.link(5, 6, 0), 0);
    }

    private static void linkRefusals() {
        ParametricCut cut = new ParametricCut();
        cut.link(0, 1, 7);
        cut.link(5, 6, 9);
        for (int bad : BAD_NODES) {
            Check.due("link(" + bad + ", 1, 5)", cut.link(bad, 1, 5), BAD_NODE);
            Check.due("link(1, " + bad + ", 5)", cut.link(1, bad, 5), BAD_NODE);
            Check.due("link(" + bad + ", " + bad + ", 5)", cut.link(bad, bad, 5), BAD_NODE);
            Check.due("link(" + bad + ", 1, 21)", cut.link(bad, 1, 21), BAD_NODE);
            Check.due("link(1, " + bad + ", -1)", cut.link(1, bad, -1), BAD_NODE);
        }
        for (int v = 0; v < 7; v++) {
            Check.due("link(" + v + ", " + v + ", 5)", cut.link(v, v, 5), BAD_NODE);
            Check.due("link(" + v + ", " + v + ", 21)", cut.link(v, v, 21), BAD_NODE);
        }
        for (int bad : new int[] {-1, 21, -20, Integer.MIN_VALUE, Integer.MAX_VALUE}) {
            Check.due("link(0, 1, " + bad + ")", cut.link(0, 1, bad), BAD_NUMBER);
            Check.due("link(1, 0, " + bad + ")", cut.link(1, 0, bad), BAD_NUMBER);
        }
        for (int u = 0; u < 7; u++) {
            for (int v = u + 1; v < 7; v++) {
                int kept = u == 0 && v == 1 ? 7 : u == 5 && v == 6 ? 9 : 0;
                Check.due("kept link(" + u + ", " + v + ", 0)", cut.link(u, v, 0), kept);
            }
        }
    }

    private static void toSourceSets() {
        for (int v = 0; v < 7; v++) {
            ParametricCut cut = new ParametricCut();
            int off = 127 & ~(1 << v);
            Check.due("toSource(" + v + ", 40, 2)", cut.toSource(v, 40, 2), 0);
            Check.due("off the side at 50", cut.cost(off, 50), 140);
            Check.due("on the side at 50", cut.cost(1 << v, 50), 0);
            Check.due("toSource(" + v + ", 40, -2)", cut.toSource(v, 40, -2), 0);
            Check.due("at 0", cut.cost(off, 0), 40);
            Check.due("at 19", cut.cost(off, 19), 2);
            Check.due("at 20", cut.cost(off, 20), 0);
            Check.due("at 21, where the pull is below 0", cut.cost(off, 21), 0);
            Check.due("toSource(" + v + ", 0, 0)", cut.toSource(v, 0, 0), 0);
            Check.due("cost after 0, 0", cut.cost(off, 50), 0);
        }
    }

    private static void toSinkSets() {
        for (int v = 0; v < 7; v++) {
            ParametricCut cut = new ParametricCut();
            int off = 127 & ~(1 << v);
            Check.due("toSink(" + v + ", 40, 2)", cut.toSink(v, 40, 2), 0);
            Check.due("on the side at 50", cut.cost(1 << v, 50), 140);
            Check.due("off the side at 50", cut.cost(off, 50), 0);
            Check.due("toSink(" + v + ", 40, -2)", cut.toSink(v, 40, -2), 0);
            Check.due("at 0", cut.cost(1 << v, 0), 40);
            Check.due("at 19", cut.cost(1 << v, 19), 2);
            Check.due("at 20", cut.cost(1 << v, 20), 0);
            Check.due("at 21, where the pull is below 0", cut.cost(1 << v, 21), 0);
            Check.due("toSink(" + v + ", 0, 0)", cut.toSink(v, 0, 0), 0);
            Check.due("cost after 0, 0", cut.cost(1 << v, 50), 0);
        }
    }

    private static void pullRefusals() {
        ParametricCut cut = new ParametricCut();
        for (int v = 0; v < 7; v++) {
            cut.toSource(v, 10 + v, 1);
            cut.toSink(v, 30 - v, -1);
        }
        for (int bad : BAD_NODES) {
            Check.due("toSource(" + bad + ", 1, 1)", cut.toSource(bad, 1, 1), BAD_NODE);
            Check.due("toSource(" + bad + ", 41, 3)", cut.toSource(bad, 41, 3), BAD_NODE);
            Check.due("toSink(" + bad + ", 1, 1)", cut.toSink(bad, 1, 1), BAD_NODE);
            Check.due("toSink(" + bad + ", 41, 3)", cut.toSink(bad, 41, 3), BAD_NODE);
        }
        for (int bad : new int[] {-1, 41, Integer.MIN_VALUE, Integer.MAX_VALUE}) {
            Check.due("toSource(3, " + bad + ", 0)", cut.toSource(3, bad, 0), BAD_NUMBER);
            Check.due("toSink(3, " + bad + ", 0)", cut.toSink(3, bad, 0), BAD_NUMBER);
        }
        for (int bad : new int[] {-3, 3, Integer.MIN_VALUE, Integer.MAX_VALUE}) {
            Check.due("toSource(3, 0, " + bad + ")", cut.toSource(3, 0, bad), BAD_NUMBER);
            Check.due("toSink(3, 0, " + bad + ")", cut.toSink(3, 0, bad), BAD_NUMBER);
        }
        for (int v = 0; v < 7; v++) {
            // One node's change of side swaps its pull to the source for its pull to the sink.
            int step = cut.cost(1 << v, 5) - cut.cost(0, 5);
            Check.due("pulls kept at node " + v, step, (30 - v - 5) - (10 + v + 5));
        }
        Check.due("cost(0, 5) kept", cut.cost(0, 5), 7 * 15 + 21);
        Check.due("cost(127, 5) kept", cut.cost(127, 5), 7 * 25 - 21);
    }

    private static void flipExchanges() {
        for (int x = 0; x <= 50; x++) {
            ParametricCut cut = mixed();
            int[] before = allCosts(cut, x);
            cut.flip();
            int[] turned = allCosts(cut, x);
            cut.flip();
            int[] back = allCosts(cut, x);
            for (int side = 0; side < 128; side++) {
                Check.due("flipped cost(" + side + ", " + x + ")", turned[side], before[127 - side]);
                Check.due("twice flipped cost(" + side + ", " + x + ")", back[side], before[side]);
            }
        }
        ParametricCut cut = mixed();
        cut.flip();
        Check.due("link(1, 0, 0) after a flip", cut.link(1, 0, 0), 20);
        Check.due("node 0 after a flip", cut.cost(126, 1) - cut.cost(127, 1), 42);
        Check.due("toSource(0, 3, 0) after a flip", cut.toSource(0, 3, 0), 0);
        Check.due("node 0 after toSource", cut.cost(126, 1) - cut.cost(127, 1), 3);
        Check.due("toSink(0, 9, 2) after a flip", cut.toSink(0, 9, 2), 0);
        Check.due("node 0 after toSink", cut.cost(126, 1) - cut.cost(127, 1), 3 - 11);
    }

    private static ParametricCut mixed() {
        ParametricCut cut = new ParametricCut();
        for (int v = 0; v < 7; v++) {
            cut.toSource(v, 5 * v, v % 5 - 2);
            cut.toSink(v, 40 - 3 * v, 2 - v % 3);
        }
        cut.link(0, 1, 20);
        cut.link(6, 2, 11);
        return cut;
    }

    private static int[] allCosts(ParametricCut cut, int x) {
        int[] costs = new int[128];
        for (int side = 0; side < 128; side++) {
            costs[side] = cut.cost(side, x);
        }
        return costs;
    }

    private static void objectsAreApart() {
        ParametricCut one = new ParametricCut();
        ParametricCut other = new ParametricCut();
        one.link(0, 1, 20);
        one.toSource(0, 40, 2);
        one.toSink(1, 40, 2);
        Check.due("other.cost(2, 50)", other.cost(2, 50), 0);
        Check.due("other.link(0, 1, 1)", other.link(0, 1, 1), 0);
        Check.due("one.cost(2, 50)", one.cost(2, 50), 20 + 140 + 140);
    }
}
