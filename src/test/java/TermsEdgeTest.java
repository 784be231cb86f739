import java.util.LinkedHashMap;
import java.util.Map;

/** The edges that the document names ahead of its promises, a method for each sentence, and promise 1. */
public final class TermsEdgeTest {
    private static final int BAD_NODE = -1;
    private static final int BAD_NUMBER = -2;

    /** One call, made on an object; a boolean counts 1 or 0, no answer counts 0. */
    private interface Call {
        int on(ParametricCut cut);
    }

    public static void main(String[] args) {
        fiveHundredAndTwelveCallsOfAKind();
        fiveHundredAndTwelveMixedCalls();
        sevenNodes();
        linksAreBetweenTwoDifferentNodes();
        capacitiesAre0To20();
        xIs0To50();
        basesAndSlopes();
        aPullBelow0CountsAs0();
        aPullBelow0TakesNothingFromAnother();
        masksAre0To127();
        costIsTheSum();
        greatestCost();
        testsInTheirOrder();
        refusedCallsChangeNothing();
        xOutsideIsBadNumber();
        questionsChangeNothing();
        newObject();
        Check.end();
    }

    private static void fiveHundredAndTwelveCallsOfAKind() {
        Check.sentence("What it is: at most 512 calls on one object");
        Map<String, Call> calls = new LinkedHashMap<>(questions());
        calls.putAll(refusals());
        calls.forEach((name, call) -> {
            int first = call.on(new Known().cut);
            // Filling the object has taken 35 calls.
            ParametricCut cut = new Known().cut;
            for (int k = 36; k < 512; k++) {
                call.on(cut);
            }
            Check.due("512th call, " + name, call.on(cut), first);
        });
        ParametricCut links = new ParametricCut();
        ParametricCut flips = new ParametricCut();
        flips.toSource(6, 40, 2);
        links.link(5, 6, 0);
        for (int k = 1; k < 511; k++) {
            Check.due("call " + (k + 1) + ", link", links.link(5, 6, k % 21), (k - 1) % 21);
            flips.flip();
        }
        Check.due("512th call, link", links.link(6, 5, 0), 510 % 21);
        Check.due("512th call, cost after 510 flips", flips.cost(63, 50), 140);
    }

    private static void fiveHundredAndTwelveMixedCalls() {
        Check.sentence("What it is: 512 calls of all kinds on one object");
        Known known = new Known();
        for (int k = 35; k < 512; k++) {
            mixedCall(known, k);
        }
    }

    private static void mixedCall(Known known, int k) {
        int u = k % 7;
        int v = (u + 1 + k % 6) % 7;
        int x = k % 51;
        String name = "call " + (k + 1) + ", ";
        switch (k % 5) {
            case 0 -> {
                int old = known.due.capacity(u, v);
                Check.due(name + "link", known.link(u, v, k % 21), old);
            }
            case 1 -> Check.due(name + "toSource", known.toSource(v, k % 41, k % 3 - 2), 0);
            case 2 -> Check.due(name + "toSink", known.toSink(v, k % 41, 2 - k % 4), 0);
            case 3 -> Check.due(name + "cost", known.cut.cost(k, x), known.due.cost(k & 127, x));
            default -> {
                if (k % 2 == 0) {
                    known.flip();
                } else {
                    Check.due(name + "least", known.cut.least(x), known.due.least(x));
                }
            }
        }
    }

    private static void sevenNodes() {
        Check.sentence("Terms: seven nodes (0 to 6)");
        for (int v = 0; v < 7; v++) {
            nodeIsTaken(v, v == 0 ? 6 : 0);
        }
        for (int v : Edges.NOT_NODES) {
            ParametricCut cut = new ParametricCut();
            Check.due("toSource(" + v + ", 1, 0)", cut.toSource(v, 1, 0), BAD_NODE);
            Check.due("toSink(" + v + ", 1, 0)", cut.toSink(v, 1, 0), BAD_NODE);
            Check.due("link(" + v + ", 0, 1)", cut.link(v, 0, 1), BAD_NODE);
            Check.due("link(0, " + v + ", 1)", cut.link(0, v, 1), BAD_NODE);
            Check.due("spare(" + v + ", 0, 1)", cut.spare(v, 0, 1), BAD_NODE);
            Check.due("spare(0, " + v + ", 1)", cut.spare(0, v, 1), BAD_NODE);
            Check.due("separates(" + v + ", 0, 1)", cut.separates(v, 0, 1), false);
            Check.due("separates(0, " + v + ", 1)", cut.separates(0, v, 1), false);
        }
    }

    private static void nodeIsTaken(int v, int other) {
        ParametricCut cut = new ParametricCut();
        Check.due("separates(" + v + ", " + other + ", 1)", cut.separates(v, other, 1), true);
        Check.due("separates(" + other + ", " + v + ", 1)", cut.separates(other, v, 1), true);
        Check.due("link(" + v + ", " + other + ", 4)", cut.link(v, other, 4), 0);
        Check.due("link(" + other + ", " + v + ", 6)", cut.link(other, v, 6), 4);
        Check.due("toSource(" + v + ", 9, 0)", cut.toSource(v, 9, 0), 0);
        Check.due("toSink(" + v + ", 8, 0)", cut.toSink(v, 8, 0), 0);
        Check.due("cost with only node " + v, cut.cost(1 << v, 1), 6 + 8);
        Check.due("cost without node " + v, cut.cost(127 - (1 << v), 1), 6 + 9);
        Check.due("spare(" + v + ", " + other + ", 1)", cut.spare(v, other, 1), 6);
        Check.due("spare(" + other + ", " + v + ", 1)", cut.spare(other, v, 1), 6);
    }

    private static void linksAreBetweenTwoDifferentNodes() {
        Check.sentence("Terms: a link is between two different nodes");
        for (int v = 0; v < 7; v++) {
            ParametricCut cut = new ParametricCut();
            Check.due("link(" + v + ", " + v + ", 1)", cut.link(v, v, 1), BAD_NODE);
            Check.due("spare(" + v + ", " + v + ", 1)", cut.spare(v, v, 1), BAD_NODE);
            Check.due("separates(" + v + ", " + v + ", 1)", cut.separates(v, v, 1), false);
        }
        for (int u = 0; u < 7; u++) {
            for (int v = 0; v < 7; v++) {
                if (u != v) {
                    ParametricCut cut = new ParametricCut();
                    Check.due("link(" + u + ", " + v + ", 1)", cut.link(u, v, 1), 0);
                    Check.due("spare(" + u + ", " + v + ", 1)", cut.spare(u, v, 1), 1);
                }
            }
        }
    }

    private static void capacitiesAre0To20() {
        Check.sentence("Terms: a capacity is 0 to 20");
        ParametricCut cut = new ParametricCut();
        for (int capacity = 0; capacity <= 20; capacity++) {
            Check.due("link(0, 1, " + capacity + ")", cut.link(0, 1, capacity), Math.max(0, capacity - 1));
            Check.due("cost(1, 0) with " + capacity, cut.cost(1, 0), capacity);
        }
        for (int capacity : Edges.NOT_CAPACITIES) {
            Check.due("link(0, 1, " + capacity + ")", cut.link(0, 1, capacity), BAD_NUMBER);
            Check.due("cost(1, 0) after it", cut.cost(1, 0), 20);
        }
    }

    private static void xIs0To50() {
        Check.sentence("Terms: x is a whole number from 0 to 50");
        ParametricCut cut = new ParametricCut();
        cut.toSource(2, 0, 1);
        cut.toSink(2, 40, 2);
        for (int x = 0; x <= 50; x++) {
            Check.due("cost(0, " + x + ")", cut.cost(0, x), x);
            Check.due("least(" + x + ")", cut.least(x), x);
            Check.due("always(" + x + ")", cut.always(x), 0);
            Check.due("ever(" + x + ")", cut.ever(x), 127 - 4);
            Check.due("ties(" + x + ")", cut.ties(x), 64);
            Check.due("spare(2, 3, " + x + ")", cut.spare(2, 3, x), 0);
            Check.due("separates(3, 2, " + x + ")", cut.separates(3, 2, x), true);
        }
        for (int x : Edges.NOT_XS) {
            Check.due("least(" + x + ")", new ParametricCut().least(x), BAD_NUMBER);
        }
    }

    private static void basesAndSlopes() {
        Check.sentence("Terms: a and c are 0 to 40, b and d are -2 to 2");
        for (int base : new int[] {0, 1, 39, 40}) {
            for (int slope = -2; slope <= 2; slope++) {
                ParametricCut cut = new ParametricCut();
                String line = base + ", " + slope + ")";
                Check.due("toSource(6, " + line, cut.toSource(6, base, slope), 0);
                Check.due("toSink(0, " + line, cut.toSink(0, base, slope), 0);
            }
        }
        for (int base : Edges.NOT_BASES) {
            ParametricCut cut = new ParametricCut();
            Check.due("toSource(6, " + base + ", 0)", cut.toSource(6, base, 0), BAD_NUMBER);
            Check.due("toSink(0, " + base + ", 0)", cut.toSink(0, base, 0), BAD_NUMBER);
        }
        for (int slope : Edges.NOT_SLOPES) {
            ParametricCut cut = new ParametricCut();
            Check.due("toSource(6, 0, " + slope + ")", cut.toSource(6, 0, slope), BAD_NUMBER);
            Check.due("toSink(0, 0, " + slope + ")", cut.toSink(0, 0, slope), BAD_NUMBER);
        }
    }

    private static void aPullBelow0CountsAs0() {
        Check.sentence("Terms: a pull below 0 counts as 0");
        for (int base = 0; base <= 40; base++) {
            for (int slope = -2; slope <= 2; slope++) {
                ParametricCut cut = new ParametricCut();
                cut.toSource(4, base, slope);
                cut.toSink(5, base, slope);
                for (int x = 0; x <= 50; x++) {
                    int line = base + slope * x;
                    int due = line < 0 ? 0 : line;
                    String at = " of " + base + " + " + slope + " * " + x;
                    Check.due("source's pull" + at, cut.cost(0, x), due);
                    Check.due("sink's pull" + at, cut.cost(48, x), due);
                }
            }
        }
    }

    private static void aPullBelow0TakesNothingFromAnother() {
        Check.sentence("Terms: a pull below 0 takes nothing from what else costs");
        ParametricCut cut = new ParametricCut();
        cut.toSource(0, 1, -2);
        cut.toSource(1, 9, 0);
        cut.toSink(2, 1, -2);
        cut.toSink(3, 7, 0);
        cut.link(0, 2, 5);
        Check.due("1 - 2 * 0 counts", cut.cost(12, 0), 1 + 9 + 1 + 7 + 5);
        Check.due("1 - 2 * 1 counts 0", cut.cost(12, 1), 9 + 7 + 5);
        Check.due("1 - 2 * 50 counts 0", cut.cost(12, 50), 9 + 7 + 5);
        Check.due("1 - 2 * 0 counts again", cut.cost(12, 0), 1 + 9 + 1 + 7 + 5);
        Check.due("least(50)", cut.least(50), 0);
        Check.due("always(50)", cut.always(50), 2);
        Check.due("ever(50)", cut.ever(50), 127 - 8);
    }

    private static void masksAre0To127() {
        Check.sentence("Terms: a side is a mask, bit v for node v, 0 to 127");
        for (int side = 0; side < 128; side++) {
            ParametricCut cut = new ParametricCut();
            for (int v = 0; v < 7; v++) {
                boolean on = (side >> v & 1) == 1;
                cut.toSource(v, on ? 40 : 0, 0);
                cut.toSink(v, on ? 0 : 40, 0);
            }
            Check.due("cost(" + side + ", 0) of the side pulled to", cut.cost(side, 0), 0);
            Check.due("cost of the other nodes", cut.cost(127 - side, 0), 280);
            Check.due("always(0) of " + side, cut.always(0), side);
            Check.due("ever(50) of " + side, cut.ever(50), side);
        }
    }

    private static void costIsTheSum() {
        Check.sentence("Terms: a cut's cost at x is the sum of pulls and capacities");
        for (int x : new int[] {0, 1, 13, 49, 50}) {
            Known known = new Known();
            for (int side = 0; side < 128; side++) {
                Check.due("cost(" + side + ", " + x + ")", known.cut.cost(side, x), known.due.cost(side, x));
            }
        }
    }

    private static void greatestCost() {
        Check.sentence("Terms: the greatest pulls and capacities all at once");
        ParametricCut cut = new ParametricCut();
        for (int v = 0; v < 7; v++) {
            cut.toSource(v, 40, 2);
            cut.toSink(v, 40, 2);
            for (int u = 0; u < v; u++) {
                cut.link(u, v, 20);
            }
        }
        // Three nodes against four are parted by 12 links.
        Check.due("cost(7, 50)", cut.cost(7, 50), 7 * 140 + 12 * 20);
        Check.due("cost(127, 50)", cut.cost(127, 50), 7 * 140);
        Check.due("cost(7, 0)", cut.cost(7, 0), 7 * 40 + 12 * 20);
        Check.due("least(50)", cut.least(50), 7 * 140);
        Check.due("always(50)", cut.always(50), 0);
        Check.due("ever(50)", cut.ever(50), 127);
        Check.due("ties(50)", cut.ties(50), 2);
        Check.due("stages()", cut.stages(), 1);
        Check.due("worst()", cut.worst(), 50);
        Check.due("spare(0, 6, 50)", cut.spare(0, 6, 50), 20);
        Check.due("separates(0, 6, 50)", cut.separates(0, 6, 50), false);
    }

    private static void testsInTheirOrder() {
        Check.sentence("Terms: tests are made in the order in which they are named");
        ParametricCut cut = new ParametricCut();
        Check.due("link(-1, 0, -1)", cut.link(-1, 0, -1), BAD_NODE);
        Check.due("link(0, 7, 21)", cut.link(0, 7, 21), BAD_NODE);
        Check.due("link(3, 3, 21)", cut.link(3, 3, 21), BAD_NODE);
        Check.due("toSource(7, 41, 0)", cut.toSource(7, 41, 0), BAD_NODE);
        Check.due("toSource(-1, 0, 3)", cut.toSource(-1, 0, 3), BAD_NODE);
        Check.due("toSink(7, -1, 0)", cut.toSink(7, -1, 0), BAD_NODE);
        Check.due("toSink(-1, 0, -3)", cut.toSink(-1, 0, -3), BAD_NODE);
        Check.due("spare(-1, 0, 51)", cut.spare(-1, 0, 51), BAD_NODE);
        Check.due("spare(0, 7, -1)", cut.spare(0, 7, -1), BAD_NODE);
        Check.due("spare(3, 3, 51)", cut.spare(3, 3, 51), BAD_NODE);
    }

    private static void refusedCallsChangeNothing() {
        Check.sentence("Terms: a refused call changes nothing");
        refusals().forEach((name, call) -> {
            Known known = new Known();
            Check.due(name + " is refused", call.on(known.cut) < 0, true);
            known.unchangedAfter(name);
        });
    }

    private static Map<String, Call> refusals() {
        Map<String, Call> calls = new LinkedHashMap<>();
        calls.put("link(-1, 6, 5)", cut -> cut.link(-1, 6, 5));
        calls.put("link(6, 7, 5)", cut -> cut.link(6, 7, 5));
        calls.put("link(6, 6, 5)", cut -> cut.link(6, 6, 5));
        calls.put("link(0, 6, 21)", cut -> cut.link(0, 6, 21));
        calls.put("link(6, 0, -1)", cut -> cut.link(6, 0, -1));
        calls.put("toSource(-1, 1, 1)", cut -> cut.toSource(-1, 1, 1));
        calls.put("toSource(7, 1, 1)", cut -> cut.toSource(7, 1, 1));
        calls.put("toSource(0, 41, 1)", cut -> cut.toSource(0, 41, 1));
        calls.put("toSource(6, 1, -3)", cut -> cut.toSource(6, 1, -3));
        calls.put("toSink(-1, 1, 1)", cut -> cut.toSink(-1, 1, 1));
        calls.put("toSink(7, 1, 1)", cut -> cut.toSink(7, 1, 1));
        calls.put("toSink(0, -1, 1)", cut -> cut.toSink(0, -1, 1));
        calls.put("toSink(6, 1, 3)", cut -> cut.toSink(6, 1, 3));
        calls.put("cost(0, 51)", cut -> cut.cost(0, 51));
        calls.put("least(-1)", cut -> cut.least(-1));
        calls.put("always(51)", cut -> cut.always(51));
        calls.put("ever(-1)", cut -> cut.ever(-1));
        calls.put("ties(51)", cut -> cut.ties(51));
        calls.put("spare(0, 7, 0)", cut -> cut.spare(0, 7, 0));
        calls.put("spare(6, 6, 0)", cut -> cut.spare(6, 6, 0));
        calls.put("spare(0, 6, -1)", cut -> cut.spare(0, 6, -1));
        return calls;
    }

    private static void xOutsideIsBadNumber() {
        Check.sentence("Terms: x not in 0 to 50 is BAD_NUMBER");
        for (int x : Edges.NOT_XS) {
            ParametricCut cut = new ParametricCut();
            Check.due("cost(5, " + x + ")", cut.cost(5, x), BAD_NUMBER);
            Check.due("least(" + x + ")", cut.least(x), BAD_NUMBER);
            Check.due("always(" + x + ")", cut.always(x), BAD_NUMBER);
            Check.due("ever(" + x + ")", cut.ever(x), BAD_NUMBER);
            Check.due("ties(" + x + ")", cut.ties(x), BAD_NUMBER);
            Check.due("spare(0, 1, " + x + ")", cut.spare(0, 1, x), BAD_NUMBER);
        }
    }

    private static void questionsChangeNothing() {
        Check.sentence("Terms: the calls cost to separates change nothing");
        questions().forEach((name, call) -> {
            Known known = new Known();
            int first = call.on(known.cut);
            Check.due(name + " again", call.on(known.cut), first);
            known.unchangedAfter(name);
        });
    }

    private static Map<String, Call> questions() {
        Map<String, Call> calls = new LinkedHashMap<>();
        for (int x : new int[] {0, 50}) {
            calls.put("cost(127, " + x + ")", cut -> cut.cost(127, x));
            calls.put("cost(-1, " + x + ")", cut -> cut.cost(-1, x));
            calls.put("least(" + x + ")", cut -> cut.least(x));
            calls.put("always(" + x + ")", cut -> cut.always(x));
            calls.put("ever(" + x + ")", cut -> cut.ever(x));
            calls.put("ties(" + x + ")", cut -> cut.ties(x));
            calls.put("spare(0, 6, " + x + ")", cut -> cut.spare(0, 6, x));
            calls.put("separates(6, 0, " + x + ")", cut -> cut.separates(6, 0, x) ? 1 : 0);
        }
        calls.put("stages()", ParametricCut::stages);
        calls.put("worst()", ParametricCut::worst);
        calls.put("separates(0, 7, 0)", cut -> cut.separates(0, 7, 0) ? 1 : 0);
        calls.put("separates(6, 6, 0)", cut -> cut.separates(6, 6, 0) ? 1 : 0);
        calls.put("separates(0, 6, 51)", cut -> cut.separates(0, 6, 51) ? 1 : 0);
        return calls;
    }

    private static void newObject() {
        Check.sentence("Promise 1: no links");
        for (int u = 0; u < 7; u++) {
            for (int v = 0; v < 7; v++) {
                if (u != v) {
                    Check.due("link(" + u + ", " + v + ", 20)", new ParametricCut().link(u, v, 20), 0);
                    Check.due("spare(" + u + ", " + v + ", 0)", new ParametricCut().spare(u, v, 0), 0);
                }
            }
        }
        Check.sentence("Promise 1: all pulls 0");
        for (int x = 0; x <= 50; x++) {
            ParametricCut cut = new ParametricCut();
            Check.due("all pulls to the source at " + x, cut.cost(0, x), 0);
            Check.due("all pulls to the sink at " + x, cut.cost(127, x), 0);
            Check.due("ties(" + x + ")", cut.ties(x), 128);
        }
    }
}
