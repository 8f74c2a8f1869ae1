/** Arguments that lie outside of 0..143, the nearest and the farthest ones. */
final class Numbers {
    static final int[] OUTSIDE = {
        -1, -2, -12, -144, 144, 145, 156, 287, 288, 65536, -65536, 1000000,
        Integer.MAX_VALUE, Integer.MIN_VALUE, Integer.MIN_VALUE + 5
    };

    private Numbers() {
    }
}
