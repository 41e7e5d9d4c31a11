/** Tables for tests, laid by the names of their cards. */
final class Tables {
    private Tables() {
    }

    /** An empty text leaves a seat, or the board, without cards. */
    static HandTables of(String board, String... seats) {
        HandTables table = new HandTables();
        for (int seat = 0; seat < seats.length; seat++) {
            if (!seats[seat].isEmpty()) {
                String[] two = seats[seat].split(" ");
                table.seat(seat, Cards.card(two[0]), Cards.card(two[1]));
            }
        }
        if (!board.isEmpty()) {
            for (String card : board.split(" ")) {
                table.board(Cards.card(card));
            }
        }
        return table;
    }

    /** The first cards of a board, as a text. */
    static String part(String board, int count) {
        return count == 0 ? "" : board.substring(0, 3 * count - 1);
    }
}
