import java.util.stream.IntStream;

/** Numbers outside a range: next to it, far from it, and those that come back into it when cut short. */
final class Outside {
    // 715827883 times six wraps around to 2; 1 << 32 is 1; the powers vanish in a byte or a short.
    private static final int[] FAR = {-715827883, 715827883, -32, 32, -64, 64, -256, 256, -65536, 65536,
        Integer.MIN_VALUE, Integer.MIN_VALUE + 1, Integer.MAX_VALUE - 1, Integer.MAX_VALUE};

    private Outside() {
    }

    static int[] of(int least, int greatest) {
        IntStream near = IntStream.of(least - 2, least - 1, greatest + 1, greatest + 2, -1000, 1000);
        IntStream sameByte = IntStream.of(least - 256, least + 256, greatest - 65536, greatest + 65536);
        return IntStream.concat(IntStream.concat(near, sameByte), IntStream.of(FAR))
                .filter(number -> number < least || number > greatest)
                .distinct()
                .toArray();
    }

    /** Numbers that are no point of an object of n; 6 and 7 stand beside the room that is kept. */
    static int[] ofPoints(int n) {
        return IntStream.concat(IntStream.of(of(0, n - 1)), IntStream.of(-7, -6, 5, 6, 7, 35, 36))
                .filter(number -> number < 0 || number >= n)
                .distinct()
                .toArray();
    }
}
