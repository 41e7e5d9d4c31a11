/**
 * Values of card hands, and a table of seats that play with them.
 *
 * A set of ranks is kept as a long with rank r at bit 4 * r, because that is how the cards of
 * one suit lie in a set of cards: a shift and a mask turn the one into the other. The PLACE of
 * some ranks is how many sets of as many ranks come before them, the higher rank counting first;
 * values are made of places, so no table of all hands is needed.
 */
public final class HandTables {
    public static final int NONE = -1;

    private static final int CARDS = 52;
    private static final int RANKS = 13;
    private static final int SUITS = 4;
    private static final int SEATS = 6;
    private static final int FULL_BOARD = 5;

    /** The board lies behind the seats, as it has their next number in cards(). */
    private static final int BOARD = 6;

    private static final int CATEGORIES = 9;
    private static final int VALUES = 7462;

    private static final int HIGH_CARD = 0;
    private static final int PAIR = 1;
    private static final int TWO_PAIRS = 2;
    private static final int THREE = 3;
    private static final int STRAIGHT = 4;
    private static final int FLUSH = 5;
    private static final int FULL_HOUSE = 6;
    private static final int FOUR = 7;
    private static final int STRAIGHT_FLUSH = 8;

    private static final int[] FIRST = {0, 1277, 4137, 4995, 5853, 5863, 7140, 7296, 7452, 7462};

    /** By category, as the suits that a row can have do not depend on its ranks. */
    private static final int[] SETS = {1020, 384, 144, 64, 1020, 4, 24, 4, 4};

    /** How many sets of one, two or three ranks there are beside one rank that is taken. */
    private static final int ONES = 12;
    private static final int TWOS = 66;
    private static final int THREES = 220;

    /** How many single ranks there are beside two that are taken. */
    private static final int ONES_BESIDE_TWO = 11;

    /** The lowest straight ends with rank 3, as its ace lies below the two. */
    private static final int LOWEST_STRAIGHT = 3;

    /** The places of the straights among all sets of five ranks; the last but one is 12, 0 .. 3. */
    private static final int[] STRAIGHT_PLACES = {0, 5, 20, 55, 125, 251, 461, 791, 792, 1286};

    /** Ways to choose 1 (first line) to 5 (last line) of 0 .. 12 things. */
    private static final int[] CHOOSE = {
        0, 1, 2, 3, 4, 5, 6, 7, 8, 9, 10, 11, 12,
        0, 0, 1, 3, 6, 10, 15, 21, 28, 36, 45, 55, 66,
        0, 0, 0, 1, 4, 10, 20, 35, 56, 84, 120, 165, 220,
        0, 0, 0, 0, 1, 5, 15, 35, 70, 126, 210, 330, 495,
        0, 0, 0, 0, 0, 1, 6, 21, 56, 126, 252, 462, 792
    };

    private static final long ALL_CARDS = 0xFFFFFFFFFFFFFL;
    private static final long ALL_RANKS = 0x1111111111111L;

    /** A set of seven cards has so many subsets. */
    private static final int SUBSETS = 128;

    private static final int SEED_FACTOR = 1103515245;
    private static final int SEED_STEP = 12345;
    private static final int ALL_BUT_SIGN = 0x7FFFFFFF;

    private final long[] table;
    private final int[] deck;
    private int drawn;

    public HandTables() {
        table = new long[SEATS + 1];
        deck = new int[CARDS];
        sortDeck();
    }

    public int value(long cards) throws IllegalArgumentException {
        requireHand(cards);
        return valueOf(cards);
    }

    public int category(long cards) throws IllegalArgumentException {
        requireHand(cards);
        return categoryOf(valueOf(cards));
    }

    public long best(long cards) throws IllegalArgumentException {
        requireHand(cards);
        int value = valueOf(cards);
        long five = cards;
        // The subsets come in falling order, so the first that fits is the greatest.
        for (int i = 0; i < SUBSETS && !isFiveWorth(five, value); i++) {
            five = (five - 1) & cards;
        }
        return five;
    }

    public int worth(int value) throws IllegalArgumentException {
        requireValue(value);
        int category = categoryOf(value);
        return category + rowAt(category, value - FIRST[category]);
    }

    public int sets(int value) throws IllegalArgumentException {
        requireValue(value);
        return SETS[categoryOf(value)];
    }

    public int first(int category) throws IllegalArgumentException {
        if (category < 0 || category > CATEGORIES) {
            throw new IllegalArgumentException("no such category");
        }
        return FIRST[category];
    }

    public boolean seat(int seat, int one, int other)
            throws IndexOutOfBoundsException, IllegalArgumentException {
        requireSeat(seat);
        requireCard(one);
        requireCard(other);
        long two = (1L << one) | (1L << other);
        long elsewhere = standing() & ~table[seat];
        if (one == other || (two & elsewhere) != 0) {
            return false;
        }
        table[seat] = two;
        return true;
    }

    public boolean leave(int seat) throws IndexOutOfBoundsException {
        requireSeat(seat);
        boolean had = table[seat] != 0;
        table[seat] = 0;
        return had;
    }

    public int board(int card) throws IllegalArgumentException {
        requireCard(card);
        long come = 1L << card;
        if (missing() == 0 || (standing() & come) != 0) {
            return NONE;
        }
        table[BOARD] |= come;
        return boardSize();
    }

    public int clear() {
        int had = boardSize();
        table[BOARD] = 0;
        return had;
    }

    public long cards(int seat) throws IndexOutOfBoundsException {
        if (seat != BOARD) {
            requireSeat(seat);
        }
        return table[seat];
    }

    public int hand(int seat) throws IndexOutOfBoundsException, IllegalStateException {
        requireSeat(seat);
        requireTaken(seat);
        requireThreeOnBoard();
        return valueOf(table[seat] | table[BOARD]);
    }

    public int ahead() throws IllegalStateException {
        requireThreeOnBoard();
        int leaders = leadersOn(table, table[BOARD]);
        if (leaders == 0) {
            throw new IllegalStateException("all seats are empty");
        }
        return leaders;
    }

    public int boards() throws IllegalStateException {
        requireThreeOnBoard();
        int free = Long.bitCount(free());
        switch (missing()) {
            case 0:
                return 1;
            case 1:
                return free;
            default:
                return free * (free - 1) / 2;
        }
    }

    public int wins(int seat, int what)
            throws IndexOutOfBoundsException, IllegalArgumentException, IllegalStateException {
        requireSeat(seat);
        if (what != 0 && what != 1) {
            throw new IllegalArgumentException("neither wins nor shares");
        }
        requireTaken(seat);
        requireThreeOnBoard();
        return countBoards(table, seat, what == 1, table[BOARD], free(), missing());
    }

    public long outs(int seat) throws IndexOutOfBoundsException, IllegalStateException {
        requireSeat(seat);
        requireTaken(seat);
        requireThreeOnBoard();
        if (missing() == 0) {
            throw new IllegalStateException("the board is full");
        }
        long free = free();
        long outs = 0;
        for (int card = 0; card < CARDS; card++) {
            long next = free & (1L << card);
            if (next != 0 && leadersOn(table, table[BOARD] | next) == 1 << seat) {
                outs |= next;
            }
        }
        return outs;
    }

    public int share(int seat, int pot)
            throws IndexOutOfBoundsException, IllegalArgumentException, IllegalStateException {
        requireSeat(seat);
        if (pot < 0) {
            throw new IllegalArgumentException("the pot is below 0");
        }
        requireTaken(seat);
        if (missing() != 0) {
            throw new IllegalStateException("the board is not full");
        }
        int leaders = leadersOn(table, table[BOARD]);
        int count = Integer.bitCount(leaders);
        if (count == 0 || (leaders & (1 << seat)) == 0) {
            return 0;
        }
        int lesser = Integer.bitCount(leaders & ((1 << seat) - 1));
        return pot / count + (lesser < pot % count ? 1 : 0);
    }

    public void shuffle(int seed) {
        sortDeck();
        int next = seed;
        for (int i = CARDS - 1; i >= 1; i--) {
            next = next * SEED_FACTOR + SEED_STEP;
            int j = ((next & ALL_BUT_SIGN) >> 8) % (i + 1);
            int card = deck[i];
            deck[i] = deck[j];
            deck[j] = card;
        }
    }

    public int draw() {
        if (drawn >= CARDS) {
            return NONE;
        }
        int card = deck[drawn];
        drawn++;
        return card;
    }

    private static void requireHand(long cards) {
        int count = Long.bitCount(cards);
        if (count < 5 || count > 7 || (cards & ~ALL_CARDS) != 0) {
            throw new IllegalArgumentException("not five to seven cards");
        }
    }

    private static void requireValue(int value) {
        if (value < 0 || value >= VALUES) {
            throw new IllegalArgumentException("no such value");
        }
    }

    private static void requireSeat(int seat) {
        if (seat < 0 || seat >= SEATS) {
            throw new IndexOutOfBoundsException("no such seat");
        }
    }

    private static void requireCard(int card) {
        if (card < 0 || card >= CARDS) {
            throw new IllegalArgumentException("no card");
        }
    }

    private void requireTaken(int seat) {
        if (table[seat] == 0) {
            throw new IllegalStateException("the seat is empty");
        }
    }

    private void requireThreeOnBoard() {
        if (boardSize() < 3) {
            throw new IllegalStateException("the board has less than three cards");
        }
    }

    private int boardSize() {
        return Long.bitCount(table[BOARD]);
    }

    private int missing() {
        return FULL_BOARD - boardSize();
    }

    private long standing() {
        long cards = 0;
        for (int i = 0; i <= SEATS; i++) {
            cards |= table[i];
        }
        return cards;
    }

    private long free() {
        return ALL_CARDS & ~standing();
    }

    /** The seats with the greatest hand if the board were this one; none when all are empty. */
    private static int leadersOn(long[] table, long board) {
        int greatest = NONE;
        int leaders = 0;
        for (int seat = 0; seat < SEATS; seat++) {
            int value = table[seat] == 0 ? NONE : valueOf(table[seat] | board);
            if (value > greatest) {
                greatest = value;
                leaders = 0;
            }
            if (value != NONE && value == greatest) {
                leaders |= 1 << seat;
            }
        }
        return leaders;
    }

    /** Counts the full boards, made of a board and free cards, that a seat wins or shares. */
    private static int countBoards(
            long[] table, int seat, boolean shared, long board, long free, int missing) {
        if (missing <= 0) {
            return isOutcome(seat, shared, leadersOn(table, board)) ? 1 : 0;
        }
        int count = 0;
        long rest = free;
        for (int card = 0; card < CARDS; card++) {
            long next = rest & (1L << card);
            if (next != 0) {
                // Cards only come in rising order, so that no full board is counted twice.
                rest &= ~next;
                count += countBoards(table, seat, shared, board | next, rest, missing - 1);
            }
        }
        return count;
    }

    private static boolean isOutcome(int seat, boolean shared, int leaders) {
        boolean leads = (leaders & (1 << seat)) != 0;
        boolean alone = leaders == 1 << seat;
        return leads && shared != alone;
    }

    private void sortDeck() {
        for (int i = 0; i < CARDS; i++) {
            deck[i] = i;
        }
        drawn = 0;
    }

    private static int categoryOf(int value) {
        int category = CATEGORIES - 1;
        while (category > 0 && value < FIRST[category]) {
            category--;
        }
        return category;
    }

    private static boolean isFiveWorth(long cards, int value) {
        return Long.bitCount(cards) == 5 && valueOf(cards) == value;
    }

    private static int valueOf(long cards) {
        long suited = suitedRanks(cards);
        long suitedStraights = straights(suited);
        if (suitedStraights != 0) {
            return FIRST[STRAIGHT_FLUSH] + highest(suitedStraights);
        }
        long a = cards & ALL_RANKS;
        long b = (cards >>> 1) & ALL_RANKS;
        long c = (cards >>> 2) & ALL_RANKS;
        long d = (cards >>> 3) & ALL_RANKS;
        long once = a | b | c | d;
        long twice = (a & b) | (c & d) | ((a | b) & (c | d));
        long thrice = (a & b & (c | d)) | (c & d & (a | b));
        long fourTimes = a & b & c & d;
        if (fourTimes != 0) {
            int rank = highest(fourTimes);
            return FIRST[FOUR] + rank * ONES + placeOf(without(once, rank), 1);
        }
        int three = highest(thrice);
        if (thrice != 0 && without(twice, three) != 0) {
            return FIRST[FULL_HOUSE] + three * ONES + placeOf(without(twice, three), 1);
        }
        if (suited != 0) {
            return FIRST[FLUSH] + placeBesideStraights(suited);
        }
        long allStraights = straights(once);
        if (allStraights != 0) {
            return FIRST[STRAIGHT] + highest(allStraights);
        }
        if (thrice != 0) {
            return FIRST[THREE] + three * TWOS + placeOf(without(once, three), 2);
        }
        return twice != 0 ? pairsValue(once, twice) : FIRST[HIGH_CARD] + placeBesideStraights(once);
    }

    private static int pairsValue(long once, long twice) {
        int high = highest(twice);
        long others = without(once, high);
        long lower = without(twice, high);
        if (lower == 0) {
            return FIRST[PAIR] + high * THREES + placeOf(others, 3);
        }
        int rest = placeOf(without(others, highest(lower)), 1);
        return FIRST[TWO_PAIRS] + placeOf(twice, 2) * ONES_BESIDE_TWO + rest;
    }

    /** The ranks of the suit that has five cards or more: of seven cards, one suit at most. */
    private static long suitedRanks(long cards) {
        for (int suit = 0; suit < SUITS; suit++) {
            long ranks = (cards >>> suit) & ALL_RANKS;
            if (Long.bitCount(ranks) >= 5) {
                return ranks;
            }
        }
        return 0;
    }

    /** The straights that some ranks hold, each as the rank of its place among all ten. */
    private static long straights(long ranks) {
        // The ace stands below the two as well, where all others have moved up for it.
        long row = (ranks << 4) | (ranks >>> 48);
        return row & (row >>> 4) & (row >>> 8) & (row >>> 12) & (row >>> 16);
    }

    /** The highest rank of a set; NONE when there is none. */
    private static int highest(long ranks) {
        // With all ranks below the highest filled up, their number tells which it is.
        long filled = ranks | (ranks >>> 4);
        filled |= filled >>> 8;
        filled |= filled >>> 16;
        filled |= filled >>> 32;
        return Long.bitCount(filled) - 1;
    }

    /** Takes a rank out, and closes the gap: so the places of what is left have none either. */
    private static long without(long ranks, int rank) {
        long below = (1L << (4 * rank)) - 1;
        return (ranks & below) | ((ranks >>> 4) & ~below);
    }

    /** Undoes without(): opens a gap for a rank. */
    private static long beside(long ranks, int rank) {
        long below = (1L << (4 * rank)) - 1;
        return (ranks & below) | ((ranks & ~below) << 4);
    }

    /** The place of the highest ranks of a set. */
    private static int placeOf(long ranks, int count) {
        int sum = 0;
        long rest = ranks;
        for (int left = count; left >= 1 && rest != 0; left--) {
            int rank = highest(rest);
            sum += choose(rank, left);
            rest &= ~(1L << (4 * rank));
        }
        return sum;
    }

    /** Undoes placeOf(). */
    private static long ranksAt(int place, int count) {
        long ranks = 0;
        int rest = place;
        int left = count;
        for (int rank = RANKS - 1; rank >= 0 && left >= 1; rank--) {
            int before = choose(rank, left);
            if (before <= rest) {
                ranks |= 1L << (4 * rank);
                rest -= before;
                left--;
            }
        }
        return ranks;
    }

    private static int choose(int things, int count) {
        return CHOOSE[(count - 1) * RANKS + things];
    }

    /** Five ranks that are no straight have their place among those that are none. */
    private static int placeBesideStraights(long ranks) {
        int all = placeOf(ranks, 5);
        int straightsBelow = 0;
        for (int straight : STRAIGHT_PLACES) {
            if (straight < all) {
                straightsBelow++;
            }
        }
        return all - straightsBelow;
    }

    /** Undoes placeBesideStraights(). */
    private static long ranksBesideStraights(int place) {
        int all = place;
        for (int straight : STRAIGHT_PLACES) {
            if (straight <= all) {
                all++;
            }
        }
        return ranksAt(all, 5);
    }

    /** The row of a value, as worth() has it, by the value's place in its category. */
    private static int rowAt(int category, int place) {
        switch (category) {
            case STRAIGHT_FLUSH:
            case STRAIGHT:
                return written(1L << (4 * (place + LOWEST_STRAIGHT)), 0);
            case FOUR:
            case FULL_HOUSE:
                return rowBehind(place / ONES, ranksAt(place % ONES, 1));
            case THREE:
                return rowBehind(place / TWOS, ranksAt(place % TWOS, 2));
            case TWO_PAIRS:
                return rowOfPairs(place);
            case PAIR:
                return rowBehind(place / THREES, ranksAt(place % THREES, 3));
            default:
                return written(ranksBesideStraights(place), 0);
        }
    }

    private static int rowBehind(int rank, long others) {
        return written(1L << (4 * rank), 0) + written(beside(others, rank), 1);
    }

    private static int rowOfPairs(int place) {
        long pairs = ranksAt(place / ONES_BESIDE_TWO, 2);
        int high = highest(pairs);
        int low = highest(without(pairs, high));
        // The gaps open in the other order than pairsValue() closed them.
        long other = beside(beside(ranksAt(place % ONES_BESIDE_TWO, 1), low), high);
        return written(pairs, 0) + written(other, 2);
    }

    /** Ranks, the highest first, as they stand in a row from a place on. */
    private static int written(long ranks, int from) {
        int sum = 0;
        int shift = 4 * (from + 1);
        for (int rank = RANKS - 1; rank >= 0; rank--) {
            if ((ranks & (1L << (4 * rank))) != 0) {
                sum += (rank + 1) << shift;
                shift += 4;
            }
        }
        return sum;
    }
}
