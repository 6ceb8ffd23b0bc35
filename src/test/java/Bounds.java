import java.util.stream.IntStream;

/** Whole numbers at the edges of a range, for arguments that may be any int. */
final class Bounds {
    // The last two lines come to lie inside the range if a program cuts them to a byte or a short,
    // shifts by them, or multiplies them until they wrap around.
    static int[] outside(int least, int greatest) {
        return IntStream.of(least - 1, least - 2, greatest + 1, greatest + 2,
                Integer.MIN_VALUE, Integer.MIN_VALUE + 1, Integer.MAX_VALUE - 1, Integer.MAX_VALUE,
                least + 32, least + 256, least + 65536, least + (1 << 30), least + (1 << 31),
                least - 32, least - 256, least - 65536, greatest + 256, greatest + 65536)
            .filter(i -> i < least || i > greatest).distinct().toArray();
    }

    static int[] taken(int least, int greatest) {
        return IntStream.of(least, least + 1, greatest - 1, greatest)
            .filter(i -> i >= least && i <= greatest).distinct().toArray();
    }
}
