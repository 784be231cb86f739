import java.util.ArrayList;
import java.util.HashSet;
import java.util.List;
import java.util.Set;

/** What the document asks of every call, in the order of its words and with no thought for speed. */
final class Model {
    private static final int BAD_NODE = -1;
    private static final int BAD_NUMBER = -2;

    private final int[][] links = new int[7][7];
    private int[][] source = new int[7][2];
    private int[][] sink = new int[7][2];

    int link(int u, int v, int capacity) {
        if (badPair(u, v)) {
            return BAD_NODE;
        }
        if (outside(capacity, 0, 20)) {
            return BAD_NUMBER;
        }
        int old = links[u][v];
        hold(u, v, capacity);
        return old;
    }

    int toSource(int v, int a, int b) {
        return setPull(source, v, a, b);
    }

    int toSink(int v, int c, int d) {
        return setPull(sink, v, c, d);
    }

    private static int setPull(int[][] pulls, int v, int base, int slope) {
        if (outside(v, 0, 6)) {
            return BAD_NODE;
        }
        if (outside(base, 0, 40) || outside(slope, -2, 2)) {
            return BAD_NUMBER;
        }
        pulls[v] = new int[] {base, slope};
        return 0;
    }

    void flip() {
        int[][] kept = source;
        source = sink;
        sink = kept;
    }

    int cost(int side, int x) {
        return badX(x) ? BAD_NUMBER : sum(side & 127, x);
    }

    int least(int x) {
        return badX(x) ? BAD_NUMBER : lowest(x);
    }

    int always(int x) {
        return badX(x) ? BAD_NUMBER : leastCuts(x).stream().reduce(127, (a, b) -> a & b);
    }

    int ever(int x) {
        return badX(x) ? BAD_NUMBER : leastCuts(x).stream().reduce(0, (a, b) -> a | b);
    }

    int ties(int x) {
        return badX(x) ? BAD_NUMBER : leastCuts(x).size();
    }

    int stages() {
        Set<Integer> masks = new HashSet<>();
        for (int x = 0; x <= 50; x++) {
            masks.add(always(x));
        }
        return masks.size();
    }

    int worst() {
        int greatest = 0;
        for (int x = 0; x <= 50; x++) {
            greatest = Math.max(greatest, lowest(x));
        }
        int smallest = 0;
        while (lowest(smallest) != greatest) {
            smallest++;
        }
        return smallest;
    }

    /** Loses one unit after another, as promise 13 tells it, and puts the link back. */
    int spare(int u, int v, int x) {
        if (badPair(u, v)) {
            return BAD_NODE;
        }
        if (badX(x)) {
            return BAD_NUMBER;
        }
        int capacity = links[u][v];
        int least = lowest(x);
        int lost = 0;
        while (lost < capacity && lowestWith(u, v, capacity - lost - 1, x) == least) {
            lost++;
        }
        hold(u, v, capacity);
        return lost;
    }

    boolean separates(int u, int v, int x) {
        if (badPair(u, v) || badX(x)) {
            return false;
        }
        return leastCuts(x).stream().anyMatch(side -> on(side, u) && !on(side, v));
    }

    int capacity(int u, int v) {
        return links[u][v];
    }

    int sourcePull(int v, int x) {
        return pull(source[v], x);
    }

    int sinkPull(int v, int x) {
        return pull(sink[v], x);
    }

    private void hold(int u, int v, int capacity) {
        links[u][v] = capacity;
        links[v][u] = capacity;
    }

    private int lowestWith(int u, int v, int capacity, int x) {
        hold(u, v, capacity);
        return lowest(x);
    }

    private int lowest(int x) {
        int lowest = sum(0, x);
        for (int side = 1; side < 128; side++) {
            lowest = Math.min(lowest, sum(side, x));
        }
        return lowest;
    }

    private List<Integer> leastCuts(int x) {
        int least = lowest(x);
        List<Integer> cuts = new ArrayList<>();
        for (int side = 0; side < 128; side++) {
            if (sum(side, x) == least) {
                cuts.add(side);
            }
        }
        return cuts;
    }

    private int sum(int side, int x) {
        int sum = 0;
        for (int v = 0; v < 7; v++) {
            sum += on(side, v) ? 0 : sourcePull(v, x);
            sum += on(side, v) ? sinkPull(v, x) : 0;
            for (int u = 0; u < v; u++) {
                sum += on(side, v) == on(side, u) ? 0 : links[u][v];
            }
        }
        return sum;
    }

    private static int pull(int[] line, int x) {
        return Math.max(0, line[0] + line[1] * x);
    }

    private static boolean on(int side, int v) {
        return (side & 1 << v) != 0;
    }

    private static boolean badPair(int u, int v) {
        return outside(u, 0, 6) || outside(v, 0, 6) || u == v;
    }

    private static boolean badX(int x) {
        return outside(x, 0, 50);
    }

    private static boolean outside(int number, int low, int high) {
        return number < low || number > high;
    }
}
