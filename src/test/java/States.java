/** Tables and decks in every state that a promise tells apart, made anew each time. */
final class States {
    static final int NEW = 0;
    static final int EMPTY_BOARD = 1;
    static final int TWO_ON_BOARD = 2;
    static final int THREE_ON_BOARD = 3;
    static final int FOUR_ON_BOARD = 4;
    static final int FULL = 5;
    static final int NO_SEATS = 6;
    static final int COUNT = 7;

    /** In the states with some seats, these have cards, and the others none. */
    static final int TAKEN = 2;
    static final int ALSO_TAKEN = 5;
    static final int EMPTY = 3;

    private static final String BOARD = "2h 7d 9h Jc 3h";
    private static final String[] SOME = {"", "", "Ah Kh", "", "", "8c 8d"};
    private static final String[] ALL = {"2c 2d", "4c 4d", "Ah Kh", "5c 5d", "6c 6d", "8c 8d"};

    private States() {
    }

    static HandTables make(int state) {
        switch (state) {
            case NEW:
                return new HandTables();
            case EMPTY_BOARD:
                return drawn(Tables.of("", SOME), 1);
            case TWO_ON_BOARD:
                return drawn(Tables.of(Tables.part(BOARD, 2), SOME), 20);
            case THREE_ON_BOARD:
                return shuffledAndDrawn(Tables.of(Tables.part(BOARD, 3), SOME), 30);
            case FOUR_ON_BOARD:
                return shuffledAndDrawn(Tables.of(Tables.part(BOARD, 4), SOME), 51);
            case FULL:
                return shuffledAndDrawn(Tables.of(BOARD, ALL), 52);
            default:
                return drawn(Tables.of(BOARD), 52);
        }
    }

    static boolean isTaken(int state, int seat) {
        switch (state) {
            case NEW:
            case NO_SEATS:
                return false;
            case FULL:
                return true;
            default:
                return seat == TAKEN || seat == ALSO_TAKEN;
        }
    }

    static int boardSize(int state) {
        int[] sizes = {0, 0, 2, 3, 4, 5, 5};
        return sizes[state];
    }

    /** All that can be asked of an object: the deck is read last, by which it comes to its end. */
    static String read(HandTables table) {
        StringBuilder text = new StringBuilder();
        for (int seat = 0; seat <= 6; seat++) {
            int at = seat;
            text.append(" cards ").append(table.cards(seat));
            text.append(" hand ").append(Check.outcome(() -> table.hand(at)));
            text.append(" wins ").append(Check.outcome(() -> table.wins(at, 0)));
            text.append(" shares ").append(Check.outcome(() -> table.wins(at, 1)));
            text.append(" outs ").append(Check.outcome(() -> table.outs(at)));
            text.append(" share ").append(Check.outcome(() -> table.share(at, 100)));
        }
        text.append(" ahead ").append(Check.outcome(table::ahead));
        text.append(" boards ").append(Check.outcome(table::boards));
        text.append(" deck");
        for (int i = 0; i < 53; i++) {
            text.append(' ').append(table.draw());
        }
        return text.toString();
    }

    private static HandTables drawn(HandTables table, int count) {
        for (int i = 0; i < count; i++) {
            table.draw();
        }
        return table;
    }

    private static HandTables shuffledAndDrawn(HandTables table, int count) {
        table.shuffle(count);
        return drawn(table, count);
    }
}
