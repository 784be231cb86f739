/** The edges of promises 6 to 14, a method for each sentence. */
public final class QuestionEdgeTest {
    private static final int BAD_NODE = -1;
    private static final int BAD_NUMBER = -2;
    private static final int[] SOME_NOT_XS = {-1, 51, Integer.MIN_VALUE, Integer.MAX_VALUE};

    /** A question about one x; a boolean counts 1 or 0. */
    private interface Question {
        int ask(ParametricCut cut, int x);
    }

    public static void main(String[] args) {
        costTakesTheLowestSevenBits();
        badNumber("Promise 6, cost(0, x): ", (cut, x) -> cut.cost(0, x));
        badNumber("Promise 6, cost(MIN_VALUE, x): ", (cut, x) -> cut.cost(Integer.MIN_VALUE, x));
        badNumber("Promise 6, cost(MAX_VALUE, x): ", (cut, x) -> cut.cost(Integer.MAX_VALUE, x));
        leastOfAnyCut();
        badNumber("Promise 7, least(x): ", ParametricCut::least);
        alwaysWithFreeNodes();
        badNumber("Promise 8, always(x): ", ParametricCut::always);
        everWithFreeNodes();
        badNumber("Promise 9, ever(x): ", ParametricCut::ever);
        tiesFrom1To128();
        badNumber("Promise 10, ties(x): ", ParametricCut::ties);
        stagesCountFrom0();
        stagesCountTo50();
        stagesCountDifferentMasks();
        stagesTellAllMasksApart();
        worstFrom0();
        worstTo50();
        worstIsTheSmallestX();
        spareIsTheGreatestLoss();
        spareGoesDownTo0();
        spareBadNode();
        spareSameNode();
        badNumber("Promise 13, spare(0, 6, x): ", (cut, x) -> cut.spare(0, 6, x));
        badNumber("Promise 13, spare(6, 5, x): ", (cut, x) -> cut.spare(6, 5, x));
        spareBadNodeAheadOfBadNumber();
        separatesAnyTwo();
        separatesBadNode();
        separatesSameNode();
        separatesBadX();
        Check.end();
    }

    /** Each promise that says BAD_NUMBER: for which x, for which not, and that nothing has changed. */
    private static void badNumber(String call, Question question) {
        Check.sentence(call + "x not in 0 to 50 is BAD_NUMBER");
        for (int x : Edges.NOT_XS) {
            Known known = new Known();
            Check.due(call + x, question.ask(known.cut, x), BAD_NUMBER);
            known.unchangedAfter(call + x);
            Check.due("new: " + call + x, question.ask(new ParametricCut(), x), BAD_NUMBER);
        }
        for (int x : new int[] {0, 50}) {
            Check.due(call + x + " is answered", question.ask(new Known().cut, x) >= 0, true);
        }
    }

    private static void costTakesTheLowestSevenBits() {
        Check.sentence("Promise 6: side & 127 counts");
        for (int side = 0; side < 128; side++) {
            Known known = new Known();
            int due = known.due.cost(side, 50);
            Check.due("cost(" + side + ", 50)", known.cut.cost(side, 50), due);
            for (int bit = 7; bit < 32; bit++) {
                int more = side | 1 << bit;
                Check.due("cost(" + more + ", 50)", known.cut.cost(more, 50), due);
            }
            Check.due("cost(" + (side - 128) + ", 50)", known.cut.cost(side - 128, 50), due);
        }
        Known known = new Known();
        Check.due("cost(MIN_VALUE, 0)", known.cut.cost(Integer.MIN_VALUE, 0), known.due.cost(0, 0));
        Check.due("cost(MAX_VALUE, 0)", known.cut.cost(Integer.MAX_VALUE, 0), known.due.cost(127, 0));
        Check.due("cost(-1, 0)", known.cut.cost(-1, 0), known.due.cost(127, 0));
        Check.due("cost(-128, 0)", known.cut.cost(-128, 0), known.due.cost(0, 0));
        Check.due("cost(-129, 0)", known.cut.cost(-129, 0), known.due.cost(127, 0));
        Check.due("cost(128, 0)", known.cut.cost(128, 0), known.due.cost(0, 0));
    }

    private static void leastOfAnyCut() {
        Check.sentence("Promise 7: the least cost of any cut at x");
        Known known = new Known();
        for (int x = 0; x <= 50; x++) {
            Check.due("least(" + x + ")", known.cut.least(x), known.due.least(x));
        }
        for (int side = 0; side < 128; side++) {
            ParametricCut cut = new ParametricCut();
            fix(cut, side, 1);
            fix(cut, 127 - side, 3);
            // Each node costs 1 where this cut has it, and 3 in a cut that has it elsewhere.
            Check.due("least(0) at cut " + side, cut.least(0), 7);
            Check.due("least(50) at cut " + side, cut.least(50), 7);
        }
    }

    /** The nodes of the mask get this pull to the sink, the others get it to the source. */
    private static void fix(ParametricCut cut, int mask, int pull) {
        for (int v = 0; v < 7; v++) {
            if ((mask >> v & 1) == 1) {
                cut.toSink(v, pull, 0);
            } else {
                cut.toSource(v, pull, 0);
            }
        }
    }

    private static void alwaysWithFreeNodes() {
        Check.sentence("Promise 8: on the side in every cut of least cost");
        for (int mask = 0; mask < 128; mask++) {
            ParametricCut cut = held(mask);
            Check.due(mask + " held, others free: always(0)", cut.always(0), mask);
            Check.due(mask + " held, others free: always(50)", cut.always(50), mask);
            cut.flip();
            Check.due(mask + " kept off, others free: always(0)", cut.always(0), 0);
            Check.due(mask + " kept off, others free: always(50)", cut.always(50), 0);
        }
    }

    private static void everWithFreeNodes() {
        Check.sentence("Promise 9: on the side in some cut of least cost");
        for (int mask = 0; mask < 128; mask++) {
            ParametricCut cut = held(mask);
            Check.due(mask + " held, others free: ever(0)", cut.ever(0), 127);
            Check.due(mask + " held, others free: ever(50)", cut.ever(50), 127);
            cut.flip();
            Check.due(mask + " kept off, others free: ever(0)", cut.ever(0), 127 - mask);
            Check.due(mask + " kept off, others free: ever(50)", cut.ever(50), 127 - mask);
        }
    }

    /** The nodes of the mask are pulled to the source, the others not at all. */
    private static ParametricCut held(int mask) {
        ParametricCut cut = new ParametricCut();
        for (int v = 0; v < 7; v++) {
            cut.toSource(v, mask >> v & 1, 0);
        }
        return cut;
    }

    private static void tiesFrom1To128() {
        Check.sentence("Promise 10: how many cuts have the least cost at x");
        ParametricCut cut = new ParametricCut();
        int due = 128;
        Check.due("all free: ties(0)", cut.ties(0), due);
        for (int v = 0; v < 7; v++) {
            // At x = 0 the node stays free.
            cut.toSource(v, 0, 1);
            due /= 2;
            Check.due("0 to " + v + " held: ties(50)", cut.ties(50), due);
            Check.due("0 to " + v + " held: ties(1)", cut.ties(1), due);
            Check.due("0 to " + v + " free at 0: ties(0)", cut.ties(0), 128);
        }
    }

    private static void stagesCountFrom0() {
        Check.sentence("Promise 11: x goes from 0");
        ParametricCut cut = new ParametricCut();
        cut.toSource(0, 1, 0);
        cut.toSink(0, 0, 1);
        Check.due("on the side at 0 alone: always(0)", cut.always(0), 1);
        Check.due("off the side at 1: always(1)", cut.always(1), 0);
        Check.due("on the side at 0 alone: stages()", cut.stages(), 2);
        cut = new ParametricCut();
        // 0 - 2x would be a pull at x = -1.
        cut.toSource(0, 0, -2);
        Check.due("only x = -1 would differ: stages()", cut.stages(), 1);
    }

    private static void stagesCountTo50() {
        Check.sentence("Promise 11: x goes to 50");
        ParametricCut cut = new ParametricCut();
        // Nodes 0 and 1 hold together: both come to the side when x is above 40 + 9.
        cut.toSource(0, 0, 1);
        cut.toSink(0, 40, 0);
        cut.toSink(1, 9, 0);
        cut.link(0, 1, 20);
        Check.due("a tie at 49: always(49)", cut.always(49), 0);
        Check.due("on the side at 50: always(50)", cut.always(50), 3);
        Check.due("on the side at 50 alone: stages()", cut.stages(), 2);
        cut.toSink(1, 10, 0);
        Check.due("a tie at 50: always(50)", cut.always(50), 0);
        Check.due("only x = 51 would differ: stages()", cut.stages(), 1);
    }

    private static void stagesCountDifferentMasks() {
        Check.sentence("Promise 11: how many different masks");
        ParametricCut cut = new ParametricCut();
        Check.due("one mask, 0: stages()", cut.stages(), 1);
        fix(cut, 0, 1);
        Check.due("one mask, 127: stages()", cut.stages(), 1);
        for (int v = 0; v < 7; v++) {
            comingNodes(v, 2 + v);
        }
        cut = new ParametricCut();
        // 30 - x against 40 - 2x: 0 up to x = 10, then 64, and 0 again from x = 30.
        cut.toSource(6, 30, -1);
        cut.toSink(6, 40, -2);
        Check.due("always(10)", cut.always(10), 0);
        Check.due("always(11)", cut.always(11), 64);
        Check.due("always(30)", cut.always(30), 0);
        Check.due("a mask that comes back: stages()", cut.stages(), 2);
    }

    /** Nodes 0 to last come to the side one by one, in both orders. */
    private static void comingNodes(int last, int due) {
        ParametricCut up = new ParametricCut();
        ParametricCut down = new ParametricCut();
        for (int v = 0; v <= last; v++) {
            up.toSource(v, 0, 1);
            up.toSink(v, 6 * v, 0);
            down.toSource(v, 0, 1);
            down.toSink(v, 40 - 6 * v, 0);
        }
        Check.due("0 to " + last + " come: stages()", up.stages(), due);
        Check.due(last + " to 0 come: stages()", down.stages(), due);
    }

    private static void stagesTellAllMasksApart() {
        Check.sentence("Promise 11: any two masks are different ones");
        for (int first : new int[] {0, 1, 31, 32, 63, 64, 85, 126, 127}) {
            for (int then = 0; then < 128; then++) {
                ParametricCut cut = new ParametricCut();
                for (int v = 0; v < 7; v++) {
                    turn(cut, v, (first >> v & 1) == 1, (then >> v & 1) == 1);
                }
                Check.due("always(0)", cut.always(0), first);
                Check.due("always(50)", cut.always(50), then);
                Check.due(first + ", then " + then + ": stages()", cut.stages(), first == then ? 1 : 2);
            }
        }
    }

    /** Whether node v is on the side up to x = 25, and whether from 26. */
    private static void turn(ParametricCut cut, int v, boolean first, boolean then) {
        if (first == then) {
            cut.toSource(v, first ? 1 : 0, 0);
            cut.toSink(v, first ? 0 : 1, 0);
        } else if (then) {
            cut.toSource(v, 0, 1);
            cut.toSink(v, 25, 0);
        } else {
            cut.toSource(v, 26, 0);
            cut.toSink(v, 0, 1);
        }
    }

    private static void worstFrom0() {
        Check.sentence("Promise 12: x from 0");
        Check.due("all 0: worst()", new ParametricCut().worst(), 0);
        Check.due("falling: worst()", bothPulls(0, 40, -1).worst(), 0);
        Check.due("0 but at x = -1: worst()", bothPulls(0, 0, -2).worst(), 0);
        Check.due("greater at 1 than at 0: worst()", rising(1).worst(), 1);
    }

    private static void worstTo50() {
        Check.sentence("Promise 12: x to 50");
        for (int v = 0; v < 7; v++) {
            Check.due("rising by 1: worst()", bothPulls(v, 0, 1).worst(), 50);
            Check.due("rising by 2: worst()", bothPulls(v, 40, 2).worst(), 50);
        }
        ParametricCut cut = rising(20);
        // Node 0 costs no more from x = 20 on, node 1 costs x up to the end.
        cut.toSource(1, 0, 1);
        cut.toSink(1, 40, 2);
        Check.due("flat and rising: worst()", cut.worst(), 50);
    }

    private static void worstIsTheSmallestX() {
        Check.sentence("Promise 12: the smallest x");
        for (int top = 0; top <= 20; top++) {
            Check.due("flat from " + top + ": worst()", rising(top).worst(), top);
        }
        ParametricCut cut = bothPulls(0, 40, -2);
        cut.toSource(1, 10, -1);
        cut.toSink(1, 10, -1);
        cut.toSource(2, 0, 1);
        cut.toSink(2, 0, 1);
        Check.due("least(0)", cut.least(0), 50);
        Check.due("least(25)", cut.least(25), 25);
        Check.due("least(50)", cut.least(50), 50);
        Check.due("as great at 0 as at 50: worst()", cut.worst(), 0);
        cut.toSink(1, 9, -1);
        Check.due("less at 0 than at 50: worst()", cut.worst(), 50);
    }

    private static ParametricCut bothPulls(int v, int base, int slope) {
        ParametricCut cut = new ParametricCut();
        cut.toSource(v, base, slope);
        cut.toSink(v, base, slope);
        return cut;
    }

    /** The least cost rises by 2 up to this x, at most 20, and stays. */
    private static ParametricCut rising(int top) {
        ParametricCut cut = new ParametricCut();
        cut.toSource(0, 0, 2);
        cut.toSink(0, 2 * top, 0);
        return cut;
    }

    private static void spareIsTheGreatestLoss() {
        Check.sentence("Promise 13: the greatest capacity that the link could lose");
        for (int u = 0; u < 7; u++) {
            for (int v = 0; v < 7; v++) {
                for (int x = 0; u != v && x <= 50; x++) {
                    greatestLoss(u, v, x);
                }
            }
        }
    }

    private static void greatestLoss(int u, int v, int x) {
        Known known = new Known();
        String name = "spare(" + u + ", " + v + ", " + x + ")";
        int capacity = known.due.capacity(u, v);
        int least = known.due.least(x);
        int spare = known.cut.spare(u, v, x);
        Check.due(name + " is in 0 to the capacity", spare >= 0 && spare <= capacity, true);
        known.link(u, v, Math.max(0, capacity - spare));
        Check.due(name + " lost: least(" + x + ")", known.due.least(x), least);
        if (spare < capacity) {
            known.link(u, v, capacity - spare - 1);
            Check.due(name + " and one more lost: least is less", known.due.least(x) < least, true);
        }
    }

    private static void spareGoesDownTo0() {
        Check.sentence("Promise 13: down to 0");
        for (int capacity = 0; capacity <= 20; capacity++) {
            for (int flow = 0; flow <= 40; flow++) {
                ParametricCut cut = new ParametricCut();
                cut.toSource(5, flow, 0);
                cut.toSink(6, 40, 2);
                cut.link(5, 6, capacity);
                // What node 5 is pulled by goes to node 6 through the link, as far as it can.
                int due = Math.max(0, capacity - flow);
                String name = "capacity " + capacity + ", pull " + flow + ": spare";
                Check.due(name + "(5, 6, 0)", cut.spare(5, 6, 0), due);
                Check.due(name + "(6, 5, 50)", cut.spare(6, 5, 50), due);
            }
        }
        Check.due("new: spare(0, 1, 0)", new ParametricCut().spare(0, 1, 0), 0);
        ParametricCut cut = bothPulls(0, 40, 0);
        Check.due("no link, though cuts through it cost more: spare(0, 1, 0)", cut.spare(0, 1, 0), 0);
        cut.link(0, 1, 20);
        Check.due("the whole link: spare(0, 1, 50)", cut.spare(0, 1, 50), 20);
    }

    private static void spareBadNode() {
        Check.sentence("Promise 13: u or v not in 0 to 6: BAD_NODE");
        for (int bad : Edges.NOT_NODES) {
            for (int good = 0; good < 7; good++) {
                spareIsRefused(bad, good, 0);
                spareIsRefused(good, bad, 50);
            }
            spareIsRefused(bad, bad, 0);
        }
    }

    private static void spareSameNode() {
        Check.sentence("Promise 13: u == v: BAD_NODE");
        for (int v = 0; v < 7; v++) {
            spareIsRefused(v, v, 0);
            spareIsRefused(v, v, 50);
        }
    }

    private static void spareBadNodeAheadOfBadNumber() {
        Check.sentence("Promise 13: BAD_NODE ahead of BAD_NUMBER");
        for (int x : SOME_NOT_XS) {
            for (int bad : Edges.NOT_NODES) {
                spareIsRefused(bad, 0, x);
                spareIsRefused(6, bad, x);
            }
            for (int v = 0; v < 7; v++) {
                spareIsRefused(v, v, x);
            }
        }
    }

    private static void spareIsRefused(int u, int v, int x) {
        Known known = new Known();
        String call = "spare(" + u + ", " + v + ", " + x + ")";
        Check.due(call, known.cut.spare(u, v, x), BAD_NODE);
        known.unchangedAfter(call);
    }

    private static void separatesAnyTwo() {
        Check.sentence("Promise 14: some cut of least cost has u on its side and v not");
        for (int u = 0; u < 7; u++) {
            for (int v = 0; v < 7; v++) {
                if (u != v) {
                    separatesTwo(u, v);
                }
            }
        }
    }

    private static void separatesTwo(int u, int v) {
        ParametricCut cut = new ParametricCut();
        String pair = u + " from " + v;
        Check.due("all free at 0: " + pair, cut.separates(u, v, 0), true);
        Check.due("all free at 50: " + pair, cut.separates(u, v, 50), true);
        cut.toSource(u, 0, 1);
        Check.due("u may be off at 0: " + pair, cut.separates(v, u, 0), true);
        Check.due("u is on at 1: " + pair, cut.separates(v, u, 1), false);
        Check.due("v is free at 50: " + pair, cut.separates(u, v, 50), true);
        cut.link(u, v, 1);
        Check.due("linked: " + pair, cut.separates(u, v, 50), false);
        cut.toSink(v, 1, 0);
        Check.due("v pulled as much as linked: " + pair, cut.separates(u, v, 50), true);
        cut.link(u, v, 2);
        Check.due("v pulled less than linked: " + pair, cut.separates(u, v, 50), false);
    }

    private static void separatesBadNode() {
        Check.sentence("Promise 14: a bad node: false");
        for (int bad : Edges.NOT_NODES) {
            for (int good = 0; good < 7; good++) {
                separatesIsRefused(bad, good, 0);
                separatesIsRefused(good, bad, 50);
            }
            separatesIsRefused(bad, bad, 0);
        }
    }

    private static void separatesSameNode() {
        Check.sentence("Promise 14: u == v: false");
        for (int v = 0; v < 7; v++) {
            separatesIsRefused(v, v, 0);
            separatesIsRefused(v, v, 50);
        }
    }

    private static void separatesBadX() {
        Check.sentence("Promise 14: a bad x: false");
        for (int x : Edges.NOT_XS) {
            separatesIsRefused(0, 6, x);
            separatesIsRefused(6, 0, x);
            separatesIsRefused(7, 0, x);
            separatesIsRefused(3, 3, x);
        }
    }

    /** On a new object too, where every two nodes are parted by some cut of least cost. */
    private static void separatesIsRefused(int u, int v, int x) {
        Known known = new Known();
        String call = "separates(" + u + ", " + v + ", " + x + ")";
        Check.due(call, known.cut.separates(u, v, x), false);
        known.unchangedAfter(call);
        Check.due("new: " + call, new ParametricCut().separates(u, v, x), false);
    }
}
