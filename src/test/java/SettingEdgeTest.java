/** The edges of promises 2 to 5, a method for each sentence. */
public final class SettingEdgeTest {
    private static final int BAD_NODE = -1;
    private static final int BAD_NUMBER = -2;

    /** toSource or toSink, which have the same tests for another end. */
    private interface Pull {
        int set(ParametricCut cut, int v, int base, int slope);
    }

    public static void main(String[] args) {
        linkSetsACapacity();
        linkBadNode();
        linkSameNode();
        linkBadNumber();
        linkBadNodeAheadOfBadNumber();
        linkAnswersTheOldOne();
        toSourceSets();
        toSinkSets();
        pullRefusals("Promise 3, toSource: ", ParametricCut::toSource);
        pullRefusals("Promise 4, toSink: ", ParametricCut::toSink);
        flipExchangesEveryNodesPulls();
        flipLeavesTheLinks();
        flipExchangesLinesBelow0();
        flipTwiceIsNone();
        flipOfANewObject();
        settingAfterAFlip();
        Check.end();
    }

    private static void linkSetsACapacity() {
        Check.sentence("Promise 2: sets a link's capacity");
        for (int u = 0; u < 7; u++) {
            for (int v = 0; v < 7; v++) {
                for (int capacity = 0; u != v && capacity <= 20; capacity += 5) {
                    Known known = new Known();
                    known.link(u, v, capacity);
                    known.holds("after link(" + u + ", " + v + ", " + capacity + "): ");
                }
            }
        }
    }

    private static void linkBadNode() {
        Check.sentence("Promise 2: u or v not in 0 to 6: BAD_NODE");
        for (int bad : Edges.NOT_NODES) {
            for (int good = 0; good < 7; good++) {
                linkIsRefused(bad, good, 5, BAD_NODE);
                linkIsRefused(good, bad, 5, BAD_NODE);
            }
            linkIsRefused(bad, bad, 5, BAD_NODE);
            linkIsRefused(bad, -1 - bad, 5, BAD_NODE);
        }
    }

    private static void linkSameNode() {
        Check.sentence("Promise 2: u == v: BAD_NODE");
        for (int v = 0; v < 7; v++) {
            linkIsRefused(v, v, 0, BAD_NODE);
            linkIsRefused(v, v, 20, BAD_NODE);
        }
    }

    private static void linkBadNumber() {
        Check.sentence("Promise 2: capacity not in 0 to 20: BAD_NUMBER");
        for (int capacity : Edges.NOT_CAPACITIES) {
            linkIsRefused(0, 6, capacity, BAD_NUMBER);
            linkIsRefused(6, 0, capacity, BAD_NUMBER);
            linkIsRefused(3, 4, capacity, BAD_NUMBER);
        }
    }

    private static void linkBadNodeAheadOfBadNumber() {
        Check.sentence("Promise 2: BAD_NODE ahead of BAD_NUMBER");
        for (int capacity : new int[] {-1, 21, Integer.MIN_VALUE, Integer.MAX_VALUE}) {
            for (int bad : Edges.NOT_NODES) {
                linkIsRefused(bad, 0, capacity, BAD_NODE);
                linkIsRefused(6, bad, capacity, BAD_NODE);
                linkIsRefused(bad, bad, capacity, BAD_NODE);
            }
            for (int v = 0; v < 7; v++) {
                linkIsRefused(v, v, capacity, BAD_NODE);
            }
        }
    }

    private static void linkIsRefused(int u, int v, int capacity, int due) {
        Known known = new Known();
        String call = "link(" + u + ", " + v + ", " + capacity + ")";
        Check.due(call, known.cut.link(u, v, capacity), due);
        known.unchangedAfter(call);
    }

    private static void linkAnswersTheOldOne() {
        Check.sentence("Promise 2: else answers the old one");
        for (int u = 0; u < 7; u++) {
            for (int v = 0; v < 7; v++) {
                if (u != v) {
                    oldOnes(u, v);
                }
            }
        }
    }

    private static void oldOnes(int u, int v) {
        ParametricCut cut = new ParametricCut();
        String pair = " on " + u + " " + v;
        Check.due("20 after nothing" + pair, cut.link(u, v, 20), 0);
        Check.due("20 after 20" + pair, cut.link(u, v, 20), 20);
        Check.due("0 after 20, turned" + pair, cut.link(v, u, 0), 20);
        Check.due("1 after 0" + pair, cut.link(u, v, 1), 0);
        Check.due("21 is refused" + pair, cut.link(u, v, 21), BAD_NUMBER);
        Check.due("-1 is refused" + pair, cut.link(v, u, -1), BAD_NUMBER);
        Check.due("19 after 1 and the refused" + pair, cut.link(v, u, 19), 1);
        Check.due("0 after 19" + pair, cut.link(u, v, 0), 19);
        Check.due("0 after 0" + pair, cut.link(u, v, 0), 0);
    }

    private static void toSourceSets() {
        Check.sentence("Promise 3: sets a node's pull to the source to a + b * x, answers 0");
        for (int v = 0; v < 7; v++) {
            for (int a : new int[] {0, 40}) {
                for (int b = -2; b <= 2; b++) {
                    Known known = new Known();
                    String call = "toSource(" + v + ", " + a + ", " + b + ")";
                    Check.due(call, known.toSource(v, a, b), 0);
                    Check.due(call + " again", known.toSource(v, a, b), 0);
                    known.holds("after " + call + ": ");
                }
            }
        }
    }

    private static void toSinkSets() {
        Check.sentence("Promise 4: sets a node's pull to the sink to c + d * x, answers 0");
        for (int v = 0; v < 7; v++) {
            for (int c : new int[] {0, 40}) {
                for (int d = -2; d <= 2; d++) {
                    Known known = new Known();
                    String call = "toSink(" + v + ", " + c + ", " + d + ")";
                    Check.due(call, known.toSink(v, c, d), 0);
                    Check.due(call + " again", known.toSink(v, c, d), 0);
                    known.holds("after " + call + ": ");
                }
            }
        }
    }

    private static void pullRefusals(String promise, Pull pull) {
        Check.sentence(promise + "v not in 0 to 6: BAD_NODE");
        for (int v : Edges.NOT_NODES) {
            pullIsRefused(pull, v, 0, -2, BAD_NODE);
            pullIsRefused(pull, v, 40, 2, BAD_NODE);
        }
        Check.sentence(promise + "the base not in 0 to 40: BAD_NUMBER");
        for (int base : Edges.NOT_BASES) {
            pullIsRefused(pull, 0, base, -2, BAD_NUMBER);
            pullIsRefused(pull, 6, base, 2, BAD_NUMBER);
        }
        Check.sentence(promise + "the slope not in -2 to 2: BAD_NUMBER");
        for (int slope : Edges.NOT_SLOPES) {
            pullIsRefused(pull, 0, 0, slope, BAD_NUMBER);
            pullIsRefused(pull, 6, 40, slope, BAD_NUMBER);
        }
        Check.sentence(promise + "base and slope out of range: BAD_NUMBER");
        for (int base : new int[] {-1, 41, Integer.MIN_VALUE, Integer.MAX_VALUE}) {
            for (int slope : new int[] {-3, 3, Integer.MIN_VALUE, Integer.MAX_VALUE}) {
                pullIsRefused(pull, 3, base, slope, BAD_NUMBER);
            }
        }
        Check.sentence(promise + "BAD_NODE ahead of BAD_NUMBER");
        for (int v : Edges.NOT_NODES) {
            pullIsRefused(pull, v, -1, 0, BAD_NODE);
            pullIsRefused(pull, v, 41, 0, BAD_NODE);
            pullIsRefused(pull, v, 0, -3, BAD_NODE);
            pullIsRefused(pull, v, 40, 3, BAD_NODE);
            pullIsRefused(pull, v, Integer.MIN_VALUE, Integer.MAX_VALUE, BAD_NODE);
        }
    }

    private static void pullIsRefused(Pull pull, int v, int base, int slope, int due) {
        Known known = new Known();
        String call = "(" + v + ", " + base + ", " + slope + ")";
        Check.due(call, pull.set(known.cut, v, base, slope), due);
        known.unchangedAfter(call);
    }

    private static void flipExchangesEveryNodesPulls() {
        Check.sentence("Promise 5: every node's two pulls are exchanged");
        for (int v = 0; v < 7; v++) {
            ParametricCut cut = new ParametricCut();
            cut.toSource(v, 40, 2);
            cut.toSink(v, 0, 1);
            cut.flip();
            Check.due("node " + v + " on the side at 50", cut.cost(1 << v, 50), 140);
            Check.due("node " + v + " off the side at 50", cut.cost(127 - (1 << v), 50), 50);
            Check.due("node " + v + " on the side at 0", cut.cost(1 << v, 0), 40);
            Check.due("node " + v + " off the side at 0", cut.cost(127 - (1 << v), 0), 0);
        }
        Known known = new Known();
        known.flip();
        known.holds("all nodes after a flip: ");
    }

    private static void flipLeavesTheLinks() {
        Check.sentence("Promise 5: only pulls are exchanged");
        ParametricCut cut = new ParametricCut();
        cut.link(0, 1, 20);
        cut.link(6, 5, 1);
        cut.flip();
        Check.due("cost(33, 0)", cut.cost(33, 0), 21);
        Check.due("link(0, 1, 0)", cut.link(0, 1, 0), 20);
        Check.due("link(5, 6, 0)", cut.link(5, 6, 0), 1);
        Check.due("link(2, 3, 0)", cut.link(2, 3, 0), 0);
    }

    private static void flipExchangesLinesBelow0() {
        Check.sentence("Promise 5: a pull that is below 0 at some x is exchanged whole");
        ParametricCut cut = new ParametricCut();
        cut.toSource(2, 40, -2);
        cut.toSink(2, 0, -2);
        cut.flip();
        Check.due("on the side at 0", cut.cost(4, 0), 40);
        Check.due("on the side at 19", cut.cost(4, 19), 2);
        Check.due("on the side at 21", cut.cost(4, 21), 0);
        Check.due("off the side at 0", cut.cost(0, 0), 0);
        Check.due("off the side at 50", cut.cost(0, 50), 0);
        cut.flip();
        Check.due("off the side at 0, flipped back", cut.cost(0, 0), 40);
        Check.due("on the side at 0, flipped back", cut.cost(4, 0), 0);
    }

    private static void flipTwiceIsNone() {
        Check.sentence("Promise 5: two flips are none");
        Known known = new Known();
        known.cut.flip();
        known.cut.flip();
        known.unchangedAfter("two flips");
    }

    private static void flipOfANewObject() {
        Check.sentence("Promise 5: a flip where all pulls are 0");
        ParametricCut cut = new ParametricCut();
        cut.flip();
        Check.due("ties(0)", cut.ties(0), 128);
        Check.due("ties(50)", cut.ties(50), 128);
        Check.due("least(50)", cut.least(50), 0);
    }

    private static void settingAfterAFlip() {
        Check.sentence("Promise 5: what is set after a flip is set at the end it names");
        Known known = new Known();
        known.flip();
        known.toSource(0, 11, 2);
        known.toSink(6, 12, -2);
        known.holds("set after a flip: ");
        known = new Known();
        known.toSource(0, 11, 2);
        known.flip();
        known.toSource(0, 13, 1);
        known.flip();
        known.holds("set between flips: ");
        known = new Known();
        known.flip();
        Check.due("link(0, 1, 3) after a flip", known.link(0, 1, 3), 7);
        Check.due("a refused toSource after a flip", known.cut.toSource(0, 41, 0), BAD_NUMBER);
        Check.due("a refused toSink after a flip", known.cut.toSink(7, 0, 0), BAD_NODE);
        known.holds("refused after a flip: ");
    }
}
