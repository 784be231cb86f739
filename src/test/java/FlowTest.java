/**
 * Promises 2 to 14 on many mixed cuts, against answers found in another way than by trying all cuts:
 * the greatest flow from source to sink is the least cost, and what it leaves over tells the cuts of least cost.
 */
public final class FlowTest {
    private static final int SOURCE = 7;
    private static final int SINK = 8;
    private static final int ENDS_AND_NODES = 9;

    private final int[][] links = new int[7][7];
    private final int[][] source = new int[7][2];
    private final int[][] sink = new int[7][2];
    private long state;

    private FlowTest(long seed) {
        state = seed;
    }

    public static void main(String[] args) {
        for (int seed = 1; seed <= 300; seed++) {
            new FlowTest(seed).compare("cut " + seed + ": ");
        }
        Check.end();
    }

    /** A fixed row of numbers, so that every run tries the same cuts. */
    private int next(int bound) {
        state = state * 6364136223846793005L + 1442695040888963407L;
        return (int) ((state >>> 33) % bound);
    }

    private void compare(String name) {
        ParametricCut cut = new ParametricCut();
        fill(cut, name);
        for (int round = 0; round < 3; round++) {
            for (int k = 0; k < 3; k++) {
                compareAt(cut, next(51), name);
            }
            compareOverAll(cut, name);
            if (round == 0) {
                flipBoth(cut);
            } else {
                change(cut, name);
            }
        }
    }

    private void fill(ParametricCut cut, String name) {
        // Small ranges make ties common.
        int base = next(3) == 0 ? 5 : 41;
        int capacity = next(3) == 0 ? 3 : 21;
        for (int v = 0; v < 7; v++) {
            source[v] = new int[] {next(base), next(5) - 2};
            sink[v] = new int[] {next(base), next(5) - 2};
            Check.due(name + "toSource", cut.toSource(v, source[v][0], source[v][1]), 0);
            Check.due(name + "toSink", cut.toSink(v, sink[v][0], sink[v][1]), 0);
        }
        int count = next(22);
        for (int k = 0; k < count; k++) {
            setLink(cut, next(7), next(7), next(capacity), name);
        }
    }

    private void setLink(ParametricCut cut, int u, int v, int capacity, String name) {
        int want = u == v ? -1 : links[u][v];
        Check.due(name + "link(" + u + ", " + v + ", " + capacity + ")", cut.link(u, v, capacity), want);
        if (u != v) {
            links[u][v] = capacity;
            links[v][u] = capacity;
        }
    }

    private void change(ParametricCut cut, String name) {
        int v = next(7);
        source[v] = new int[] {next(41), next(5) - 2};
        Check.due(name + "toSource", cut.toSource(v, source[v][0], source[v][1]), 0);
        setLink(cut, next(7), next(7), next(21), name);
    }

    private void flipBoth(ParametricCut cut) {
        cut.flip();
        for (int v = 0; v < 7; v++) {
            int[] kept = source[v];
            source[v] = sink[v];
            sink[v] = kept;
        }
    }

    private void compareAt(ParametricCut cut, int x, String name) {
        int[][] rest = network(x);
        int least = pushAll(rest);
        boolean[][] reach = reach(rest);
        String at = ", x = " + x;
        Check.due(name + "least" + at, cut.least(x), least);
        Check.due(name + "always" + at, cut.always(x), fromSource(reach));
        Check.due(name + "ever" + at, cut.ever(x), notToSink(reach));
        Check.due(name + "ties" + at, cut.ties(x), closedSides(reach));
        int side = next(128);
        Check.due(name + "cost " + side + at, cut.cost(side, x), crossing(side, network(x)));
        for (int k = 0; k < 5; k++) {
            int u = next(7);
            int v = next(7);
            String pair = " " + u + " " + v + at;
            // A cut of least cost can part them unless u drags v, or an end, to the wrong side.
            boolean apart = u != v && !reach[u][v] && !reach[u][SINK] && !reach[SOURCE][v];
            Check.due(name + "separates" + pair, cut.separates(u, v, x), apart);
            Check.due(name + "spare" + pair, cut.spare(u, v, x), u == v ? -1 : spare(u, v, x, least));
        }
    }

    private void compareOverAll(ParametricCut cut, String name) {
        java.util.Set<Integer> masks = new java.util.HashSet<>();
        int worst = 0;
        int greatest = -1;
        for (int x = 0; x <= 50; x++) {
            int[][] rest = network(x);
            int least = pushAll(rest);
            masks.add(fromSource(reach(rest)));
            if (least > greatest) {
                greatest = least;
                worst = x;
            }
        }
        Check.due(name + "stages()", cut.stages(), masks.size());
        Check.due(name + "worst()", cut.worst(), worst);
    }

    private int[][] network(int x) {
        int[][] room = new int[ENDS_AND_NODES][ENDS_AND_NODES];
        for (int v = 0; v < 7; v++) {
            room[SOURCE][v] = Math.max(0, source[v][0] + source[v][1] * x);
            room[v][SINK] = Math.max(0, sink[v][0] + sink[v][1] * x);
            System.arraycopy(links[v], 0, room[v], 0, 7);
        }
        return room;
    }

    private static int crossing(int side, int[][] room) {
        int sum = 0;
        int from = side | 1 << SOURCE;
        for (int u = 0; u < ENDS_AND_NODES; u++) {
            for (int v = 0; v < ENDS_AND_NODES; v++) {
                if ((from >> u & 1) == 1 && (from >> v & 1) == 0) {
                    sum += room[u][v];
                }
            }
        }
        return sum;
    }

    /** Sends all it can from source to sink, leaves in room what is still free, and answers how much it sent. */
    private static int pushAll(int[][] room) {
        int sent = 0;
        for (int[] path = path(room); path[SINK] >= 0; path = path(room)) {
            int most = Integer.MAX_VALUE;
            for (int v = SINK; v != SOURCE; v = path[v]) {
                most = Math.min(most, room[path[v]][v]);
            }
            for (int v = SINK; v != SOURCE; v = path[v]) {
                room[path[v]][v] -= most;
                room[v][path[v]] += most;
            }
            sent += most;
        }
        return sent;
    }

    private static int[] path(int[][] room) {
        int[] before = new int[ENDS_AND_NODES];
        java.util.Arrays.fill(before, -1);
        before[SOURCE] = SOURCE;
        java.util.ArrayDeque<Integer> queue = new java.util.ArrayDeque<>();
        queue.add(SOURCE);
        while (!queue.isEmpty()) {
            int u = queue.remove();
            for (int v = 0; v < ENDS_AND_NODES; v++) {
                if (before[v] < 0 && room[u][v] > 0) {
                    before[v] = u;
                    queue.add(v);
                }
            }
        }
        return before;
    }

    private static boolean[][] reach(int[][] room) {
        boolean[][] reach = new boolean[ENDS_AND_NODES][ENDS_AND_NODES];
        for (int u = 0; u < ENDS_AND_NODES; u++) {
            for (int v = 0; v < ENDS_AND_NODES; v++) {
                reach[u][v] = u == v || room[u][v] > 0;
            }
        }
        for (int by = 0; by < ENDS_AND_NODES; by++) {
            for (int u = 0; u < ENDS_AND_NODES; u++) {
                for (int v = 0; v < ENDS_AND_NODES; v++) {
                    reach[u][v] |= reach[u][by] && reach[by][v];
                }
            }
        }
        return reach;
    }

    private static int fromSource(boolean[][] reach) {
        int mask = 0;
        for (int v = 0; v < 7; v++) {
            mask |= reach[SOURCE][v] ? 1 << v : 0;
        }
        return mask;
    }

    private static int notToSink(boolean[][] reach) {
        int mask = 0;
        for (int v = 0; v < 7; v++) {
            mask |= reach[v][SINK] ? 0 : 1 << v;
        }
        return mask;
    }

    /** The cuts of least cost are the sides that nothing left over leads out of. */
    private static int closedSides(boolean[][] reach) {
        int count = 0;
        for (int side = 0; side < 128; side++) {
            int from = side | 1 << SOURCE;
            boolean closed = true;
            for (int u = 0; u < ENDS_AND_NODES; u++) {
                for (int v = 0; v < ENDS_AND_NODES; v++) {
                    closed &= (from >> u & 1) == 0 || (from >> v & 1) == 1 || !reach[u][v];
                }
            }
            count += closed ? 1 : 0;
        }
        return count;
    }

    /** Takes the link's capacity away unit by unit, to the words of promise 13. */
    private int spare(int u, int v, int x, int least) {
        for (int lost = 1; lost <= links[u][v]; lost++) {
            int[][] room = network(x);
            room[u][v] -= lost;
            room[v][u] -= lost;
            if (pushAll(room) < least) {
                return lost - 1;
            }
        }
        return links[u][v];
    }
}
