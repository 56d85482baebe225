import java.util.Arrays;
import java.util.function.IntPredicate;

/** Numbers that lie beyond the bounds of the document. */
final class Edges {
    /** Near 0 and near the document's bounds, where shifts and lesser types wrap around, the least and the greatest. */
    private static final int[] NUMBERS = {Integer.MIN_VALUE, Integer.MIN_VALUE + 1, -65536, -65535, -257, -256, -255,
        -128, -65, -64, -63, -33, -32, -31, -17, -16, -9, -8, -7, -6, -5, -4, -3, -2, -1, 0, 1, 2, 3, 4, 5, 6, 7, 8, 9,
        15, 16, 17, 18, 24, 31, 32, 33, 34, 35, 36, 37, 38, 48, 63, 64, 65, 66, 96, 127, 128, 129, 255, 256, 257, 258,
        65535, 65536, 65537, 1 << 24, (1 << 24) + 1, 1 << 30, Integer.MAX_VALUE - 1, Integer.MAX_VALUE};

    private Edges() {
    }

    /** Those that are not from the least to the most. */
    static int[] beyond(int least, int most) {
        return those(number -> number < least || number > most);
    }

    static int[] notPlaces(int n) {
        return beyond(0, n - 1);
    }

    /** Those that have a bit outside the set. */
    static int[] notWithin(int set) {
        return those(number -> (number & ~set) != 0);
    }

    static int all(int n) {
        return (1 << n) - 1;
    }

    private static int[] those(IntPredicate is) {
        return Arrays.stream(NUMBERS).filter(is).toArray();
    }
}
