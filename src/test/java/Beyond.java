/** For each sort of argument: the values just beyond what is taken, and the ends of the ints. */
final class Beyond {
    static final int[] OWNERS = {Integer.MIN_VALUE, -1, 2, Integer.MAX_VALUE};
    /** For an owner with three signs. */
    static final int[] THREE_SIGNS = {Integer.MIN_VALUE, -1, 3, 4, 5, Integer.MAX_VALUE};
    static final int[] FIVE_SIGNS = {Integer.MIN_VALUE, -1, 5, 6, Integer.MAX_VALUE};
    static final int[] NUMBERS = {Integer.MIN_VALUE, -1, 1000, Integer.MAX_VALUE};
    static final int[] CHANCES = {Integer.MIN_VALUE, -1, 0, 101, Integer.MAX_VALUE};
    static final int[] SHELVES = {Integer.MIN_VALUE, -1, 8, Integer.MAX_VALUE};
    static final int[] STEPS = {Integer.MIN_VALUE, -1, 0, 49, 1000, Integer.MAX_VALUE};

    private Beyond() {
    }

    /** What is not 0 .. last. */
    static int[] from0To(int last) {
        return new int[] {Integer.MIN_VALUE, -1, last + 1, Integer.MAX_VALUE};
    }
}
