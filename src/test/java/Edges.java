import java.util.TreeSet;

/** The numbers just outside the document's ranges and far outside them. */
final class Edges {
    static final int[] NOT_NODES = outside(0, 6);
    static final int[] NOT_CAPACITIES = outside(0, 20);
    static final int[] NOT_BASES = outside(0, 40);
    static final int[] NOT_SLOPES = outside(-2, 2);
    static final int[] NOT_XS = outside(0, 50);

    private Edges() {
    }

    /** Beside the nearest and the farthest: numbers that would be inside if some of their bits were lost. */
    private static int[] outside(int low, int high) {
        TreeSet<Integer> numbers = new TreeSet<>();
        numbers.add(low - 1);
        numbers.add(high + 1);
        numbers.add(Integer.MIN_VALUE);
        numbers.add(Integer.MAX_VALUE);
        for (int bit = 0; bit < 32; bit++) {
            numbers.add(low + (1 << bit));
            numbers.add(high + (1 << bit));
            numbers.add(low - (1 << bit));
            numbers.add(high - (1 << bit));
        }
        numbers.removeIf(number -> number >= low && number <= high);
        return numbers.stream().mapToInt(Integer::intValue).toArray();
    }
}
