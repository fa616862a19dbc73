import java.util.Arrays;
import java.util.stream.IntStream;

/** The numbers at and beyond the ends of a range. */
final class Edges {
    /** The ends of the ints, and numbers that a shift, a product or a narrower type would take for small ones. */
    private static final int[] FAR = {
        Integer.MIN_VALUE, Integer.MIN_VALUE + 1, -(1 << 30), -65536, -256, -32, -24, -5,
        24, 32, 33, 64, 100, 256, 65536, 1 << 28, 1 << 29, 1 << 30, Integer.MAX_VALUE - 1, Integer.MAX_VALUE
    };

    private Edges() {
    }

    static int[] outside(int least, int greatest) {
        IntStream near = IntStream.of(least - 2, least - 1, greatest + 1, greatest + 2);
        return IntStream.concat(near, Arrays.stream(FAR))
                .filter(n -> n < least || n > greatest)
                .distinct()
                .toArray();
    }

    /** All that is tried for an argument of any call. */
    static int[] all() {
        IntStream near = IntStream.of(-4, -3, -2, -1, 0, 1, 2, 3, 4, 5, 7, 22, 23, 25, 98, 99);
        return IntStream.concat(near, Arrays.stream(FAR)).distinct().sorted().toArray();
    }
}
