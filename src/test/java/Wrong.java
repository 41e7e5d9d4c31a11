/**
 * Arguments that are refused: those just too small and just too large, the ends of the ints, and
 * those that would pass for good ones if an int were cut off or a shift went round.
 */
final class Wrong {
    private static final int MIN = Integer.MIN_VALUE;
    private static final int MAX = Integer.MAX_VALUE;

    static final int[] SEATS = {-1, 6, 7, -6, -26, 32, 64, 256, 65536, MIN, MIN + 5, MAX};

    /** For cards(), to which the board is number 6. */
    static final int[] SEATS_AND_BOARD = {-1, 7, 8, -6, -26, 32, 64, 256, 65536, MIN, MIN + 6, MAX};

    static final int[] CARDS = {
        -1, 52, 53, 63, 64, 115, -12, -52, -64, 256, 65536, MIN, MIN + 51, MAX
    };

    static final int[] VALUES = {-1, 7462, 7463, -7461, 65536, 72997, MIN, MIN + 7461, MAX};

    static final int[] CATEGORIES = {-1, 10, 11, -9, 256, 265, 65536, MIN, MIN + 9, MAX};

    static final int[] WHATS = {-1, 2, 3, 256, 257, 65536, 65537, MIN, MIN + 1, MAX};

    static final int[] POTS = {-1, -2, -65536, MIN, MIN + 1};

    private Wrong() {
    }
}
