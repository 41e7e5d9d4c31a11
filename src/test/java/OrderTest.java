/**
 * "Methods throw what their comments name, the one named first when several would do": every
 * method that can throw, in every state, with good and wrong arguments in all combinations.
 */
public final class OrderTest {
    private static final Check CHECK = new Check("OrderTest");
    private static final String NO_SEAT = "IndexOutOfBoundsException";
    private static final String WRONG = "IllegalArgumentException";
    private static final String NOT_NOW = "IllegalStateException";
    private static final String NOTHING = "nothing";
    private static final int[] SEATS = {-1, 0, 2, 3, 5, 6, 7, Integer.MIN_VALUE, Integer.MAX_VALUE};
    private static final int[] CARDS = {-1, 0, 51, 52, 64, Integer.MIN_VALUE, Integer.MAX_VALUE};
    private static final int[] WHATS = {-1, 0, 1, 2, Integer.MIN_VALUE, Integer.MAX_VALUE};
    private static final int[] POTS = {Integer.MIN_VALUE, -1, 0, 1, Integer.MAX_VALUE};

    public static void main(String[] args) {
        for (int state = 0; state < States.COUNT; state++) {
            wholeTable(state);
            for (int seat : SEATS) {
                seatsAlone(state, seat);
                seatsWithCards(state, seat);
                seatsWithMore(state, seat);
            }
            cardsForTheBoard(state);
        }
        CHECK.finish();
    }

    private static void thrown(String call, String due, Check.Call made) {
        String got = Check.outcome(made);
        CHECK.same(call + " throws", got.endsWith("Exception") ? got : NOTHING, due);
    }

    private static boolean isSeat(int seat) {
        return seat >= 0 && seat <= 5;
    }

    private static boolean isCard(int card) {
        return card >= 0 && card <= 51;
    }

    private static String first(boolean noSeat, boolean wrong, boolean notNow) {
        if (noSeat) {
            return NO_SEAT;
        }
        if (wrong) {
            return WRONG;
        }
        return notNow ? NOT_NOW : NOTHING;
    }

    private static void wholeTable(int state) {
        boolean small = States.boardSize(state) < 3;
        boolean none = !States.isTaken(state, States.TAKEN);
        HandTables table = States.make(state);
        thrown("state " + state + ": ahead()", first(false, false, small || none), table::ahead);
        thrown("state " + state + ": boards()", first(false, false, small), table::boards);
        thrown("state " + state + ": clear()", NOTHING, table::clear);
        thrown("state " + state + ": draw()", NOTHING, table::draw);
    }

    private static void seatsAlone(int state, int seat) {
        boolean noSeat = !isSeat(seat);
        int size = States.boardSize(state);
        boolean empty = noSeat || !States.isTaken(state, seat);
        HandTables table = States.make(state);
        String at = "state " + state + ", seat " + seat + ": ";
        thrown(at + "cards()", first(noSeat && seat != 6, false, false), () -> table.cards(seat));
        thrown(at + "hand()", first(noSeat, false, empty || size < 3), () -> table.hand(seat));
        thrown(at + "outs()", first(noSeat, false, empty || size < 3 || size > 4),
            () -> table.outs(seat));
        thrown(at + "leave()", first(noSeat, false, false), () -> table.leave(seat) ? 1 : 0);
    }

    private static void seatsWithCards(int state, int seat) {
        for (int one : CARDS) {
            for (int other : CARDS) {
                HandTables table = States.make(state);
                thrown("state " + state + ": seat(" + seat + ", " + one + ", " + other + ")",
                    first(!isSeat(seat), !isCard(one) || !isCard(other), false),
                    () -> table.seat(seat, one, other) ? 1 : 0);
            }
        }
        // Cards that stand, or are not two, are refused behind all that is thrown.
        int stands = Cards.card("Ah");
        for (int card : CARDS) {
            HandTables table = States.make(state);
            String due = first(!isSeat(seat), !isCard(card), false);
            String call = "state " + state + ": seat(" + seat + ") with Ah and " + card;
            thrown(call, due, () -> table.seat(seat, stands, card) ? 1 : 0);
            thrown(call + " before it", due, () -> table.seat(seat, card, stands) ? 1 : 0);
        }
    }

    private static void seatsWithMore(int state, int seat) {
        boolean noSeat = !isSeat(seat);
        int size = States.boardSize(state);
        boolean empty = noSeat || !States.isTaken(state, seat);
        HandTables table = States.make(state);
        for (int what : WHATS) {
            boolean wrong = what != 0 && what != 1;
            thrown("state " + state + ": wins(" + seat + ", " + what + ")",
                first(noSeat, wrong, empty || size < 3), () -> table.wins(seat, what));
        }
        for (int pot : POTS) {
            thrown("state " + state + ": share(" + seat + ", " + pot + ")",
                first(noSeat, pot < 0, empty || size < 5), () -> table.share(seat, pot));
        }
    }

    private static void cardsForTheBoard(int state) {
        for (int card : CARDS) {
            HandTables table = States.make(state);
            thrown("state " + state + ": board(" + card + ")", first(false, !isCard(card), false),
                () -> table.board(card));
        }
    }
}
