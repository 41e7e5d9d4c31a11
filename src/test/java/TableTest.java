/** Promises 1 and 8 to 13: a new table, seat, leave, board, clear, cards, hand. */
public final class TableTest {
    private static final Check CHECK = new Check("TableTest");

    public static void main(String[] args) {
        newTable();
        seatTakesTwoCards();
        seatRefusesWhatCannotBe();
        leaveEmptiesASeat();
        boardTakesFive();
        boardRefusesWhatStands();
        clearTakesTheBoardOnly();
        cardsOfSeatsAndBoard();
        handOfASeat();
        CHECK.finish();
    }

    private static void newTable() {
        HandTables table = new HandTables();
        for (int seat = 0; seat <= 6; seat++) {
            CHECK.due("cards(" + seat + ") of a new table", table.cards(seat), 0);
        }
        CHECK.due("clear() of a new table", table.clear(), 0);
        CHECK.due("leave(0) of a new table", table.leave(0), false);
        CHECK.due("board(51) of a new table", table.board(51), 1);
        CHECK.due("another new table", new HandTables().cards(6), 0);
    }

    private static void seatTakesTwoCards() {
        HandTables table = new HandTables();
        CHECK.due("seat(0, 0, 51)", table.seat(0, 0, 51), true);
        CHECK.due("cards(0)", table.cards(0), 1L | 1L << 51);
        CHECK.due("seat(5, 32, 1)", table.seat(5, 32, 1), true);
        CHECK.due("cards(5)", table.cards(5), 2L | 1L << 32);
        CHECK.due("one card again", table.seat(0, 51, 7), true);
        CHECK.due("cards(0) then", table.cards(0), 1L << 7 | 1L << 51);
        CHECK.due("both again", table.seat(0, 51, 7), true);
        CHECK.due("both again, the other way", table.seat(0, 7, 51), true);
        CHECK.due("the card that was given back", table.seat(3, 0, 2), true);
        CHECK.due("cards(3)", table.cards(3), 5L);
    }

    private static void seatRefusesWhatCannotBe() {
        HandTables table = new HandTables();
        table.seat(2, 10, 20);
        table.board(30);
        CHECK.due("the same card twice", table.seat(1, 5, 5), false);
        CHECK.due("its own card twice", table.seat(2, 10, 10), false);
        CHECK.due("one of another seat's", table.seat(1, 10, 5), false);
        CHECK.due("the other of another seat's", table.seat(1, 5, 20), false);
        CHECK.due("one of the board's", table.seat(1, 30, 5), false);
        CHECK.due("the other of the board's", table.seat(2, 10, 30), false);
        CHECK.due("cards(1) is as it was", table.cards(1), 0);
        CHECK.due("cards(2) is as it was", table.cards(2), 1L << 10 | 1L << 20);
        CHECK.due("cards(6) is as it was", table.cards(6), 1L << 30);
    }

    private static void leaveEmptiesASeat() {
        HandTables table = new HandTables();
        table.seat(5, 3, 4);
        table.seat(4, 5, 6);
        CHECK.due("leave(0)", table.leave(0), false);
        CHECK.due("leave(5)", table.leave(5), true);
        CHECK.due("cards(5)", table.cards(5), 0);
        CHECK.due("cards(4)", table.cards(4), 1L << 5 | 1L << 6);
        CHECK.due("leave(5) again", table.leave(5), false);
        CHECK.due("a card of a seat that was left", table.board(3), 1);
        CHECK.due("cards(6)", table.cards(6), 1L << 3);
    }

    private static void boardTakesFive() {
        HandTables table = new HandTables();
        for (int i = 0; i < 5; i++) {
            CHECK.due("board(" + 10 * i + ")", table.board(10 * i), i + 1);
        }
        long five = 1L | 1L << 10 | 1L << 20 | 1L << 30 | 1L << 40;
        CHECK.due("cards(6)", table.cards(6), five);
        CHECK.due("a sixth card", table.board(50), HandTables.NONE);
        CHECK.due("a card of a full board", table.board(40), HandTables.NONE);
        CHECK.due("cards(6) then", table.cards(6), five);
        CHECK.thrown("board(52) of five", IllegalArgumentException.class, () -> table.board(52));
    }

    private static void boardRefusesWhatStands() {
        HandTables table = new HandTables();
        table.seat(1, 0, 51);
        table.board(25);
        CHECK.due("one card of a seat", table.board(0), HandTables.NONE);
        CHECK.due("the other card of a seat", table.board(51), HandTables.NONE);
        CHECK.due("a card of the board", table.board(25), HandTables.NONE);
        CHECK.due("cards(6) is as it was", table.cards(6), 1L << 25);
        CHECK.due("another card", table.board(26), 2);
    }

    private static void clearTakesTheBoardOnly() {
        HandTables table = new HandTables();
        table.seat(1, 0, 51);
        for (int count = 0; count <= 5; count++) {
            for (int i = 0; i < count; i++) {
                table.board(10 + i);
            }
            CHECK.due("clear() of " + count, table.clear(), count);
            CHECK.due("cards(6) then", table.cards(6), 0);
        }
        CHECK.due("cards(1) then", table.cards(1), 1L | 1L << 51);
        CHECK.due("clear() again", table.clear(), 0);
        CHECK.due("a card that was there", table.seat(2, 10, 11), true);
    }

    private static void cardsOfSeatsAndBoard() {
        HandTables table = new HandTables();
        for (int seat = 0; seat < 6; seat++) {
            table.seat(seat, seat, 51 - seat);
        }
        table.board(33);
        for (int seat = 0; seat < 6; seat++) {
            CHECK.due("cards(" + seat + ")", table.cards(seat), 1L << seat | 1L << 51 - seat);
        }
        CHECK.due("cards(6)", table.cards(6), 1L << 33);
    }

    private static void handOfASeat() {
        HandTables table = new HandTables();
        table.seat(5, Cards.card("As"), Cards.card("Ks"));
        String[] come = {"Qs", "Js", "9s", "9d", "Ts"};
        int[] due = {0, 0, 7139, 7139, 7461};
        for (int i = 0; i < 5; i++) {
            table.board(Cards.card(come[i]));
            if (i < 2) {
                CHECK.thrown("hand(5) with a small board", IllegalStateException.class,
                    () -> table.hand(5));
            } else {
                CHECK.due("hand(5) with " + (i + 1), table.hand(5), due[i]);
            }
        }
        CHECK.thrown("hand(0) of none", IllegalStateException.class, () -> table.hand(0));
    }
}
