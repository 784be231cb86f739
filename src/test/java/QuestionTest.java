/** Promises 6 to 14, on cuts small enough to be worked out by hand. */
public final class QuestionTest {
    private static final int BAD_NODE = -1;
    private static final int BAD_NUMBER = -2;
    private static final int[] BAD_NODES = {-1, 7, 8, 31, 32, Integer.MIN_VALUE, Integer.MAX_VALUE};
    private static final int[] BAD_XS = {-1, 51, 52, -50, Integer.MIN_VALUE, Integer.MAX_VALUE};

    public static void main(String[] args) {
        costTakesSevenBits();
        chainByHand();
        tiesByHand();
        stagesCountMasks();
        worstIsTheSmallest();
        spareByHand();
        separatesHasADirection();
        badNumbers();
        badNodes();
        askingChangesNothing();
        Check.end();
    }

    /** Node 0 pulled to the source by 10 + x, node 1 to the sink by 30 - x, a link of 15 between. */
    private static ParametricCut chain() {
        ParametricCut cut = new ParametricCut();
        cut.toSource(0, 10, 1);
        cut.toSink(1, 30, -1);
        cut.link(1, 0, 15);
        // The other nodes are tied down by a pull of 1, so that only nodes 0 and 1 matter.
        for (int v = 2; v < 7; v++) {
            cut.toSink(v, 1, 0);
        }
        return cut;
    }

    private static void costTakesSevenBits() {
        ParametricCut cut = chain();
        Check.due("cost(0, 4)", cut.cost(0, 4), 14);
        Check.due("cost(1, 4)", cut.cost(1, 4), 15);
        Check.due("cost(2, 4)", cut.cost(2, 4), 14 + 26 + 15);
        Check.due("cost(3, 4)", cut.cost(3, 4), 26);
        Check.due("cost(127, 4)", cut.cost(127, 4), 26 + 5);
        Check.due("cost(128, 4)", cut.cost(128, 4), 14);
        Check.due("cost(129, 4)", cut.cost(129, 4), 15);
        Check.due("cost(-1, 4)", cut.cost(-1, 4), 31);
        Check.due("cost(-128, 4)", cut.cost(-128, 4), 14);
        Check.due("cost(-127, 4)", cut.cost(-127, 4), 15);
        Check.due("cost(MIN_VALUE, 4)", cut.cost(Integer.MIN_VALUE, 4), 14);
        Check.due("cost(MAX_VALUE, 4)", cut.cost(Integer.MAX_VALUE, 4), 31);
        Check.due("cost(0, 0)", cut.cost(0, 0), 10);
        Check.due("cost(0, 50)", cut.cost(0, 50), 60);
        Check.due("cost(3, 50), a pull below 0", cut.cost(3, 50), 0);
    }

    private static void chainByHand() {
        ParametricCut cut = chain();
        // The least is 10 + x up to x = 5, then 15 up to x = 15, then 30 - x, and 0 from x = 30.
        at(cut, 0, 10, 0, 0, 1);
        at(cut, 4, 14, 0, 0, 1);
        at(cut, 5, 15, 0, 1, 2);
        at(cut, 6, 15, 1, 1, 1);
        at(cut, 14, 15, 1, 1, 1);
        at(cut, 15, 15, 1, 3, 2);
        at(cut, 16, 14, 3, 3, 1);
        at(cut, 29, 1, 3, 3, 1);
        at(cut, 30, 0, 3, 3, 1);
        at(cut, 50, 0, 3, 3, 1);
        Check.due("chain: stages()", cut.stages(), 3);
        Check.due("chain: worst()", cut.worst(), 5);
    }

    private static void at(ParametricCut cut, int x, int least, int always, int ever, int ties) {
        Check.due("least(" + x + ")", cut.least(x), least);
        Check.due("always(" + x + ")", cut.always(x), always);
        Check.due("ever(" + x + ")", cut.ever(x), ever);
        Check.due("ties(" + x + ")", cut.ties(x), ties);
    }

    private static void tiesByHand() {
        ParametricCut cut = new ParametricCut();
        cut.link(0, 1, 1);
        cut.link(2, 3, 20);
        // Two pairs move as one and three nodes are free: 2 to the power of 5.
        at(cut, 7, 0, 0, 127, 32);
        cut.toSource(0, 1, 0);
        at(cut, 7, 0, 3, 127, 16);
        cut.toSink(6, 0, 1);
        at(cut, 7, 0, 3, 63, 8);
        at(cut, 0, 0, 3, 127, 16);
        for (int v = 0; v < 7; v++) {
            cut.toSource(v, 40, 2);
            cut.toSink(v, 0, 0);
        }
        at(cut, 50, 0, 127, 127, 1);
    }

    private static void stagesCountMasks() {
        ParametricCut cut = new ParametricCut();
        cut.toSource(0, 10, 0);
        cut.toSink(0, 30, -2);
        Check.due("one node turns: stages()", cut.stages(), 2);
        // Each node turns to the source at an x of its own: 7 turns make 8 masks, below and above 64.
        for (int v = 0; v < 7; v++) {
            cut.toSource(v, 0, 1);
            cut.toSink(v, 5 * v, 0);
        }
        Check.due("seven turn: stages()", cut.stages(), 8);
        cut.flip();
        // Turned round, node 0 is at its best a tie, at x = 0, and so never on the side always.
        Check.due("six turn back: stages()", cut.stages(), 7);
        stagesCountAMaskOnce();
        stagesSeeTheLastX();
        stagesTellMasks64Apart();
    }

    private static void stagesCountAMaskOnce() {
        ParametricCut cut = new ParametricCut();
        // 20 - 2x against 5 - x: node 6 is on the side up to x = 9, and not from x = 10, where both are 0.
        cut.toSource(6, 20, -2);
        cut.toSink(6, 5, -1);
        Check.due("on, then off: stages()", cut.stages(), 2);
        // 30 - x against 40 - 2x: off up to x = 10, then on, and off again from x = 30, where both are 0.
        cut = new ParametricCut();
        cut.toSource(0, 30, -1);
        cut.toSink(0, 40, -2);
        Check.due("off up to 10: always(10)", cut.always(10), 0);
        Check.due("on from 11: always(11)", cut.always(11), 1);
        Check.due("on up to 29: always(29)", cut.always(29), 1);
        Check.due("off from 30: always(30)", cut.always(30), 0);
        Check.due("a mask that comes back: stages()", cut.stages(), 2);
    }

    private static void stagesSeeTheLastX() {
        ParametricCut cut = new ParametricCut();
        cut.toSource(3, 0, 1);
        cut.toSink(3, 0, 0);
        Check.due("only x = 0 differs: stages()", cut.stages(), 2);
        cut.toSource(3, 0, 2);
        cut.toSink(3, 39, 1);
        Check.due("turns at 40: stages()", cut.stages(), 2);
        // Node 4 stays off and holds node 3 back by 9: 2x passes 40 + x + 9 at x = 50 and no sooner.
        cut.toSink(3, 40, 1);
        cut.toSink(4, 40, 2);
        cut.link(3, 4, 9);
        Check.due("turns at 50 alone: always(49)", cut.always(49), 0);
        Check.due("turns at 50 alone: always(50)", cut.always(50), 8);
        Check.due("turns at 50 alone: stages()", cut.stages(), 2);
    }

    private static void stagesTellMasks64Apart() {
        ParametricCut cut = new ParametricCut();
        // Node 6 comes to the side while the others stay: 0 and 64 are two masks.
        cut.toSource(6, 0, 1);
        cut.toSink(6, 25, 0);
        Check.due("0 and 64: stages()", cut.stages(), 2);
        cut.toSource(5, 40, 0);
        Check.due("32 and 96: stages()", cut.stages(), 2);
        for (int v = 0; v < 5; v++) {
            cut.toSource(v, 40, 0);
        }
        Check.due("63 and 127: stages()", cut.stages(), 2);
    }

    private static void worstIsTheSmallest() {
        ParametricCut cut = new ParametricCut();
        cut.toSource(0, 40, 0);
        cut.toSink(0, 40, 0);
        Check.due("flat: worst()", cut.worst(), 0);
        cut.toSink(0, 0, 2);
        Check.due("rising to 40 at 20: worst()", cut.worst(), 20);
        cut.toSource(0, 40, -1);
        // min(40 - x, 2x) is 26 at 13 and at 14: the smaller counts.
        Check.due("least(13)", cut.least(13), 26);
        Check.due("least(14)", cut.least(14), 26);
        Check.due("two at the top: worst()", cut.worst(), 13);
        cut.toSource(0, 40, 2);
        cut.toSink(0, 40, 2);
        Check.due("rising to the end: worst()", cut.worst(), 50);
        cut.toSource(0, 40, -2);
        cut.toSink(0, 40, -1);
        Check.due("falling: worst()", cut.worst(), 0);
    }

    private static void spareByHand() {
        ParametricCut cut = chain();
        // At x = 0 the least is 10 and the cut through the link costs 15.
        Check.due("spare(0, 1, 0)", cut.spare(0, 1, 0), 5);
        Check.due("spare(1, 0, 0)", cut.spare(1, 0, 0), 5);
        Check.due("spare(0, 1, 4)", cut.spare(0, 1, 4), 1);
        Check.due("spare(0, 1, 5)", cut.spare(0, 1, 5), 0);
        Check.due("spare(0, 1, 10)", cut.spare(0, 1, 10), 0);
        Check.due("spare(0, 1, 16)", cut.spare(0, 1, 16), 1);
        Check.due("spare(0, 1, 28)", cut.spare(0, 1, 28), 13);
        Check.due("spare(0, 1, 30)", cut.spare(0, 1, 30), 15);
        Check.due("spare(0, 1, 50)", cut.spare(0, 1, 50), 15);
        Check.due("no link: spare(0, 2, 0)", cut.spare(0, 2, 0), 0);
        Check.due("no link: spare(5, 6, 50)", cut.spare(5, 6, 50), 0);
        // Two nodes that nothing pulls apart may lose their whole link.
        cut.link(5, 6, 20);
        Check.due("spare(6, 5, 0)", cut.spare(6, 5, 0), 20);
        cut.link(0, 1, 0);
        Check.due("link of 0: spare(0, 1, 0)", cut.spare(0, 1, 0), 0);
    }

    private static void separatesHasADirection() {
        ParametricCut cut = chain();
        Check.due("separates(0, 1, 4)", cut.separates(0, 1, 4), false);
        Check.due("separates(0, 1, 5)", cut.separates(0, 1, 5), true);
        Check.due("separates(1, 0, 5)", cut.separates(1, 0, 5), false);
        Check.due("separates(0, 1, 10)", cut.separates(0, 1, 10), true);
        Check.due("separates(1, 0, 10)", cut.separates(1, 0, 10), false);
        Check.due("separates(0, 1, 15)", cut.separates(0, 1, 15), true);
        Check.due("separates(1, 2, 14)", cut.separates(1, 2, 14), false);
        Check.due("separates(1, 2, 15)", cut.separates(1, 2, 15), true);
        Check.due("separates(0, 1, 16)", cut.separates(0, 1, 16), false);
        Check.due("separates(1, 6, 50)", cut.separates(1, 6, 50), true);
        Check.due("separates(6, 1, 50)", cut.separates(6, 1, 50), false);
        // Both may be on the side and both off it, yet no cut of least cost parts them.
        ParametricCut tied = new ParametricCut();
        tied.link(2, 3, 1);
        Check.due("tied: separates(2, 3, 0)", tied.separates(2, 3, 0), false);
        Check.due("tied: separates(3, 2, 0)", tied.separates(3, 2, 0), false);
        Check.due("tied: separates(3, 4, 0)", tied.separates(3, 4, 0), true);
        for (int v = 0; v < 7; v++) {
            Check.due("separates(" + v + ", " + v + ", 0)", tied.separates(v, v, 0), false);
        }
    }

    private static void badNumbers() {
        ParametricCut cut = chain();
        for (int x : BAD_XS) {
            Check.due("cost(0, " + x + ")", cut.cost(0, x), BAD_NUMBER);
            Check.due("cost(-1, " + x + ")", cut.cost(-1, x), BAD_NUMBER);
            Check.due("least(" + x + ")", cut.least(x), BAD_NUMBER);
            Check.due("always(" + x + ")", cut.always(x), BAD_NUMBER);
            Check.due("ever(" + x + ")", cut.ever(x), BAD_NUMBER);
            Check.due("ties(" + x + ")", cut.ties(x), BAD_NUMBER);
            Check.due("spare(0, 1, " + x + ")", cut.spare(0, 1, x), BAD_NUMBER);
            Check.due("spare(4, 4, " + x + ")", cut.spare(4, 4, x), BAD_NODE);
            Check.due("spare(7, 1, " + x + ")", cut.spare(7, 1, x), BAD_NODE);
            Check.due("spare(1, -1, " + x + ")", cut.spare(1, -1, x), BAD_NODE);
            Check.due("separates(0, 2, " + x + ")", cut.separates(0, 2, x), false);
            Check.due("new: separates(0, 2, " + x + ")", new ParametricCut().separates(0, 2, x), false);
        }
    }

    private static void badNodes() {
        ParametricCut cut = new ParametricCut();
        for (int v : BAD_NODES) {
            Check.due("spare(" + v + ", 0, 0)", cut.spare(v, 0, 0), BAD_NODE);
            Check.due("spare(0, " + v + ", 0)", cut.spare(0, v, 0), BAD_NODE);
            Check.due("spare(" + v + ", " + v + ", 0)", cut.spare(v, v, 0), BAD_NODE);
            Check.due("separates(" + v + ", 0, 0)", cut.separates(v, 0, 0), false);
            Check.due("separates(0, " + v + ", 0)", cut.separates(0, v, 0), false);
            Check.due("separates(" + v + ", " + v + ", 0)", cut.separates(v, v, 0), false);
        }
        for (int v = 0; v < 7; v++) {
            Check.due("spare(" + v + ", " + v + ", 50)", cut.spare(v, v, 50), BAD_NODE);
        }
    }

    private static void askingChangesNothing() {
        ParametricCut cut = chain();
        for (int round = 0; round < 3; round++) {
            Check.due("again stages()", cut.stages(), 3);
            Check.due("again worst()", cut.worst(), 5);
            Check.due("again spare(0, 1, 28)", cut.spare(0, 1, 28), 13);
            Check.due("again separates(0, 1, 10)", cut.separates(0, 1, 10), true);
            at(cut, 10, 15, 1, 1, 1);
            Check.due("again cost(3, 4)", cut.cost(3, 4), 26);
        }
        Check.due("link(0, 1, 15) after the questions", cut.link(0, 1, 15), 15);
    }
}
