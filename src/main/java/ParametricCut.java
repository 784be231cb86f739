/** Cuts between a source and a sink whose costs change with a whole number x. */
public final class ParametricCut {
    public static final int BAD_NODE = -1;
    public static final int BAD_NUMBER = -2;

    private static final int NODES = 7;
    private static final int LINK_CELLS = 49;
    private static final int CUTS = 128;
    private static final int ALL_NODES = 127;
    private static final int GREATEST_X = 50;
    private static final int GREATEST_CAPACITY = 20;
    private static final int GREATEST_BASE = 40;
    private static final int GREATEST_SLOPE = 2;
    private static final int LONG_BITS = 64;

    // A link has no direction: only the cell of its smaller node's row is used, so the two can't disagree.
    private final int[] capacities = new int[LINK_CELLS];
    private final int[] sourceBase = new int[NODES];
    private final int[] sourceSlope = new int[NODES];
    private final int[] sinkBase = new int[NODES];
    private final int[] sinkSlope = new int[NODES];

    public ParametricCut() {
    }

    public int link(int u, int v, int capacity) {
        if (!isPair(u, v)) {
            return BAD_NODE;
        }
        if (capacity < 0 || capacity > GREATEST_CAPACITY) {
            return BAD_NUMBER;
        }
        int cell = linkCell(u, v);
        int old = capacities[cell];
        capacities[cell] = capacity;
        return old;
    }

    public int toSource(int v, int a, int b) {
        if (!isNode(v)) {
            return BAD_NODE;
        }
        if (!isPull(a, b)) {
            return BAD_NUMBER;
        }
        sourceBase[v] = a;
        sourceSlope[v] = b;
        return 0;
    }

    public int toSink(int v, int c, int d) {
        if (!isNode(v)) {
            return BAD_NODE;
        }
        if (!isPull(c, d)) {
            return BAD_NUMBER;
        }
        sinkBase[v] = c;
        sinkSlope[v] = d;
        return 0;
    }

    public void flip() {
        for (int v = 0; v < NODES; v++) {
            int base = sourceBase[v];
            int slope = sourceSlope[v];
            sourceBase[v] = sinkBase[v];
            sourceSlope[v] = sinkSlope[v];
            sinkBase[v] = base;
            sinkSlope[v] = slope;
        }
    }

    public int cost(int side, int x) {
        if (!isX(x)) {
            return BAD_NUMBER;
        }
        return costOf(side & ALL_NODES, x);
    }

    public int least(int x) {
        if (!isX(x)) {
            return BAD_NUMBER;
        }
        return leastCost(x);
    }

    public int always(int x) {
        if (!isX(x)) {
            return BAD_NUMBER;
        }
        return commonNodes(x);
    }

    public int ever(int x) {
        if (!isX(x)) {
            return BAD_NUMBER;
        }
        int least = leastCost(x);
        int nodes = 0;
        for (int side = 0; side < CUTS; side++) {
            if (costOf(side, x) == least) {
                nodes |= side;
            }
        }
        return nodes;
    }

    public int ties(int x) {
        if (!isX(x)) {
            return BAD_NUMBER;
        }
        int least = leastCost(x);
        int count = 0;
        for (int side = 0; side < CUTS; side++) {
            if (costOf(side, x) == least) {
                count++;
            }
        }
        return count;
    }

    public int stages() {
        // A mask may come back at a later x, so all masks met so far are kept, a bit for each.
        long seenLow = 0L;
        long seenHigh = 0L;
        int count = 0;
        for (int x = 0; x <= GREATEST_X; x++) {
            int mask = commonNodes(x);
            boolean low = mask < LONG_BITS;
            long bit = 1L << (low ? mask : mask - LONG_BITS);
            long seen = low ? seenLow : seenHigh;
            if ((seen & bit) == 0L) {
                count++;
            }
            if (low) {
                seenLow |= bit;
            } else {
                seenHigh |= bit;
            }
        }
        return count;
    }

    public int worst() {
        int worstX = 0;
        int greatest = leastCost(0);
        for (int x = 1; x <= GREATEST_X; x++) {
            int least = leastCost(x);
            if (least > greatest) {
                greatest = least;
                worstX = x;
            }
        }
        return worstX;
    }

    public int spare(int u, int v, int x) {
        if (!isPair(u, v)) {
            return BAD_NODE;
        }
        if (!isX(x)) {
            return BAD_NUMBER;
        }
        // Each unit lost makes just the cuts through the link cheaper by one,
        // so the cheapest of them says how far it may sink before it passes below the least.
        int least = leastCost(x);
        int room = capacities[linkCell(u, v)];
        for (int side = 0; side < CUTS; side++) {
            if (isOn(side, u) != isOn(side, v)) {
                int above = costOf(side, x) - least;
                room = above < room ? above : room;
            }
        }
        return room;
    }

    public boolean separates(int u, int v, int x) {
        if (!isPair(u, v) || !isX(x)) {
            return false;
        }
        int least = leastCost(x);
        for (int side = 0; side < CUTS; side++) {
            if (isOn(side, u) && !isOn(side, v) && costOf(side, x) == least) {
                return true;
            }
        }
        return false;
    }

    private int leastCost(int x) {
        int least = costOf(0, x);
        for (int side = 1; side < CUTS; side++) {
            int cost = costOf(side, x);
            least = cost < least ? cost : least;
        }
        return least;
    }

    private int commonNodes(int x) {
        int least = leastCost(x);
        int nodes = ALL_NODES;
        for (int side = 0; side < CUTS; side++) {
            if (costOf(side, x) == least) {
                nodes &= side;
            }
        }
        return nodes;
    }

    private int costOf(int side, int x) {
        int sum = 0;
        for (int v = 0; v < NODES; v++) {
            boolean on = isOn(side, v);
            if (on) {
                sum += pullAt(sinkBase[v], sinkSlope[v], x);
            } else {
                sum += pullAt(sourceBase[v], sourceSlope[v], x);
            }
            // Smaller nodes only, so that each link is counted once.
            for (int u = 0; u < v; u++) {
                if (isOn(side, u) != on) {
                    sum += capacities[linkCell(u, v)];
                }
            }
        }
        return sum;
    }

    private static int pullAt(int base, int slope, int x) {
        int pull = base + slope * x;
        return pull < 0 ? 0 : pull;
    }

    private static int linkCell(int u, int v) {
        return u < v ? u * NODES + v : v * NODES + u;
    }

    private static boolean isOn(int side, int v) {
        return (side >> v & 1) == 1;
    }

    private static boolean isNode(int v) {
        return v >= 0 && v < NODES;
    }

    private static boolean isPair(int u, int v) {
        return isNode(u) && isNode(v) && u != v;
    }

    private static boolean isPull(int base, int slope) {
        return base >= 0 && base <= GREATEST_BASE && slope >= -GREATEST_SLOPE && slope <= GREATEST_SLOPE;
    }

    private static boolean isX(int x) {
        return x >= 0 && x <= GREATEST_X;
    }
}
