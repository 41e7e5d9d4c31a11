import java.util.ArrayList;
import java.util.List;

/** The table and the deck by the document's words, in the slow and plain way. */
final class Model {
    private final Reference reference;
    private final int[][] seats = new int[6][];
    private final List<Integer> board = new ArrayList<>();
    private final List<Integer> deck = new ArrayList<>();
    private int drawn;

    Model(Reference reference) {
        this.reference = reference;
        sortDeck();
    }

    long value(long cards) {
        requireHand(cards);
        return reference.value(cards);
    }

    long category(long cards) {
        requireHand(cards);
        return reference.category(reference.value(cards));
    }

    long best(long cards) {
        requireHand(cards);
        return reference.best(cards);
    }

    long worth(int value) {
        require(value >= 0 && value < 7462);
        return reference.worth(value);
    }

    long sets(int value) {
        require(value >= 0 && value < 7462);
        return reference.sets(value);
    }

    long first(int category) {
        require(category >= 0 && category <= 9);
        return reference.first(category);
    }

    long seat(int seat, int one, int other) {
        requireSeat(seat);
        require(isCard(one) && isCard(other));
        int[] had = seats[seat];
        seats[seat] = null;
        if (one == other || stands(one) || stands(other)) {
            seats[seat] = had;
            return 0;
        }
        seats[seat] = new int[] {one, other};
        return 1;
    }

    long leave(int seat) {
        requireSeat(seat);
        boolean had = seats[seat] != null;
        seats[seat] = null;
        return had ? 1 : 0;
    }

    long board(int card) {
        require(isCard(card));
        if (board.size() == 5 || stands(card)) {
            return -1;
        }
        board.add(card);
        return board.size();
    }

    long clear() {
        int had = board.size();
        board.clear();
        return had;
    }

    long cards(int seat) {
        if (seat == 6) {
            return boardSet();
        }
        requireSeat(seat);
        return seats[seat] == null ? 0 : 1L << seats[seat][0] | 1L << seats[seat][1];
    }

    long hand(int seat) {
        requireSeat(seat);
        requireState(seats[seat] != null && board.size() >= 3);
        return reference.value(cards(seat) | boardSet());
    }

    long ahead() {
        int ahead = 0;
        requireState(board.size() >= 3);
        for (int seat = 0; seat < 6; seat++) {
            if (seats[seat] != null && beaten(seat, boardSet()) == 0) {
                ahead += 1 << seat;
            }
        }
        requireState(ahead != 0);
        return ahead;
    }

    long boards() {
        requireState(board.size() >= 3);
        return fullBoards().size();
    }

    long wins(int seat, int what) {
        requireSeat(seat);
        require(what == 0 || what == 1);
        requireState(seats[seat] != null && board.size() >= 3);
        int count = 0;
        for (long full : fullBoards()) {
            if (beaten(seat, full) == 0 && (equals(seat, full) > 0) == (what == 1)) {
                count++;
            }
        }
        return count;
    }

    long outs(int seat) {
        requireSeat(seat);
        requireState(seats[seat] != null && (board.size() == 3 || board.size() == 4));
        long outs = 0;
        for (int card = 0; card < 52; card++) {
            long next = boardSet() | 1L << card;
            if (!stands(card) && beaten(seat, next) == 0 && equals(seat, next) == 0) {
                outs |= 1L << card;
            }
        }
        return outs;
    }

    long share(int seat, int pot) {
        requireSeat(seat);
        require(pot >= 0);
        requireState(seats[seat] != null && board.size() == 5);
        List<Integer> winners = new ArrayList<>();
        for (int other = 0; other < 6; other++) {
            if (seats[other] != null && beaten(other, boardSet()) == 0) {
                winners.add(other);
            }
        }
        int each = pot / winners.size();
        int left = pot - each * winners.size();
        int at = winners.indexOf(seat);
        return at < 0 ? 0 : at < left ? each + 1 : each;
    }

    long shuffle(int seed) {
        sortDeck();
        int next = seed;
        for (int i = 51; i >= 1; i--) {
            next = next * 1103515245 + 12345;
            int j = (next << 1 >>> 9) % (i + 1);
            int card = deck.get(i);
            deck.set(i, deck.get(j));
            deck.set(j, card);
        }
        return 0;
    }

    long draw() {
        if (drawn == 52) {
            return -1;
        }
        drawn++;
        return deck.get(drawn - 1);
    }

    private void sortDeck() {
        deck.clear();
        for (int card = 0; card < 52; card++) {
            deck.add(card);
        }
        drawn = 0;
    }

    private int beaten(int seat, long full) {
        return compared(seat, full, 1);
    }

    private int equals(int seat, long full) {
        return compared(seat, full, 0);
    }

    private int compared(int seat, long full, int sign) {
        int own = reference.value(cards(seat) | full);
        int count = 0;
        for (int other = 0; other < 6; other++) {
            if (other != seat && seats[other] != null) {
                int value = reference.value(cards(other) | full);
                count += Integer.compare(value, own) == sign ? 1 : 0;
            }
        }
        return count;
    }

    private List<Long> fullBoards() {
        List<Long> boards = new ArrayList<>();
        boards.add(boardSet());
        for (int size = board.size(); size < 5; size++) {
            List<Long> larger = new ArrayList<>();
            for (long set : boards) {
                for (int card = 0; card < 52; card++) {
                    long added = set & ~boardSet();
                    if (!stands(card) && 1L << card > added) {
                        larger.add(set | 1L << card);
                    }
                }
            }
            boards = larger;
        }
        return boards;
    }

    private long boardSet() {
        long cards = 0;
        for (int card : board) {
            cards |= 1L << card;
        }
        return cards;
    }

    private boolean stands(int card) {
        for (int[] two : seats) {
            if (two != null && (two[0] == card || two[1] == card)) {
                return true;
            }
        }
        return board.contains(card);
    }

    private static boolean isCard(int card) {
        return card >= 0 && card < 52;
    }

    private static void requireHand(long cards) {
        require(cards >= 0 && cards < 1L << 52);
        require(Long.bitCount(cards) >= 5 && Long.bitCount(cards) <= 7);
    }

    private static void requireSeat(int seat) {
        if (seat < 0 || seat > 5) {
            throw new IndexOutOfBoundsException();
        }
    }

    private static void require(boolean right) {
        if (!right) {
            throw new IllegalArgumentException();
        }
    }

    private static void requireState(boolean right) {
        if (!right) {
            throw new IllegalStateException();
        }
    }
}
