import java.util.Arrays;

/** Wrong ids and labels: next to the range, next to the capacity, and so far off that a cell's index would wrap. */
final class Outside {
    private static final int[] TRIED = {
        Integer.MIN_VALUE, Integer.MIN_VALUE + 1, -(1 << 28), -512, -33, -32, -17, -16, -8, -2, -1,
        7, 8, 9, 15, 16, 17, 31, 32, 33, 64, 256, 512, 1 << 28, (1 << 28) + 1, 1 << 29, (1 << 29) + 1,
        1 << 30, Integer.MAX_VALUE - 1, Integer.MAX_VALUE};

    /** No label and no variable. */
    static final int[] SIXTEEN = of(16);

    private Outside() {
    }

    /** Numbers outside 0..count-1, count itself among them. */
    static int[] of(int count) {
        int[] tried = Arrays.copyOf(TRIED, TRIED.length + 1);
        tried[TRIED.length] = count;
        return Arrays.stream(tried).filter(i -> i < 0 || i >= count).toArray();
    }
}
