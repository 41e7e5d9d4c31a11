/** The edges of promises 1 and 8 to 13; the document's words stand above each. */
public final class TableEdgesTest {
    private static final Check CHECK = new Check("TableEdgesTest");
    private static final Class<IndexOutOfBoundsException> NO_SEAT = IndexOutOfBoundsException.class;
    private static final Class<IllegalArgumentException> NO_CARD = IllegalArgumentException.class;
    private static final Class<IllegalStateException> NOT_NOW = IllegalStateException.class;
    private static final int[] SMALL_AND_LARGE = {0, 51};

    public static void main(String[] args) {
        newObject();
        objectsOfTheirOwn();
        firstAndLastSeat();
        leastAndGreatestCard();
        noSuchSeatToTake();
        noCardForASeat();
        notTwoCards();
        cardsThatStandAtASeat();
        cardsThatStandOnTheBoard();
        inPlaceOfThoseItHad();
        fullTable();
        leaveATakenSeat();
        leaveAnEmptySeat();
        noSuchSeatToLeave();
        boardFromEmptyToFull();
        sixthCard();
        cardThatStands();
        noCardForTheBoard();
        clearEveryBoard();
        cardsOfAnEmptySeat();
        cardsOfTheBoard();
        noSuchSeatWithCards();
        handOnEveryBoard();
        handOfAnEmptySeat();
        noSuchSeatWithAHand();
        CHECK.finish();
    }

    private static long set(int... cards) {
        long set = 0;
        for (int card : cards) {
            set |= 1L << card;
        }
        return set;
    }

    /** All six seats and the board have cards: 0 .. 11, two each, and 12 .. 16. */
    private static HandTables full() {
        HandTables table = new HandTables();
        for (int seat = 0; seat < 6; seat++) {
            CHECK.due("seat " + seat + " gets two", table.seat(seat, 2 * seat, 2 * seat + 1), true);
        }
        for (int card = 12; card < 17; card++) {
            CHECK.due("board(" + card + ")", table.board(card), card - 11);
        }
        return table;
    }

    private static void isFull(String when, HandTables table) {
        for (int seat = 0; seat < 6; seat++) {
            CHECK.due(when + ", cards(" + seat + ")", table.cards(seat), 3L << (2 * seat));
        }
        CHECK.due(when + ", cards(6)", table.cards(6), 31L << 12);
    }

    /** "An empty table; the deck as at first." */
    private static void newObject() {
        HandTables table = new HandTables();
        for (int seat = 0; seat < 6; seat++) {
            int at = seat;
            CHECK.due("new: cards(" + seat + ")", table.cards(seat), 0);
            CHECK.due("new: leave(" + seat + ")", table.leave(seat), false);
            CHECK.thrown("new: hand(" + seat + ")", NOT_NOW, () -> table.hand(at));
            CHECK.thrown("new: wins(" + seat + ", 0)", NOT_NOW, () -> table.wins(at, 0));
            CHECK.thrown("new: outs(" + seat + ")", NOT_NOW, () -> table.outs(at));
            CHECK.thrown("new: share(" + seat + ", 0)", NOT_NOW, () -> table.share(at, 0));
        }
        CHECK.due("new: cards(6)", table.cards(6), 0);
        CHECK.due("new: clear()", table.clear(), 0);
        CHECK.thrown("new: ahead()", NOT_NOW, table::ahead);
        CHECK.thrown("new: boards()", NOT_NOW, table::boards);
        for (int card : Decks.AT_FIRST) {
            CHECK.due("new: draw()", table.draw(), card);
        }
        CHECK.due("new: draw() behind all", table.draw(), HandTables.NONE);
    }

    /** "A new object" is new whatever was done with others. */
    private static void objectsOfTheirOwn() {
        HandTables used = full();
        used.shuffle(5);
        used.draw();
        HandTables table = new HandTables();
        for (int seat = 0; seat <= 6; seat++) {
            CHECK.due("beside another: cards(" + seat + ")", table.cards(seat), 0);
        }
        CHECK.due("beside another: draw()", table.draw(), 0);
        CHECK.due("beside another: seat(0, 16, 1)", table.seat(0, 16, 1), true);
        table.shuffle(6);
        isFull("beside a new one", used);
    }

    /** "SEATS 0 to 5": the first and the last of them. */
    private static void firstAndLastSeat() {
        HandTables table = new HandTables();
        CHECK.due("seat(0, 8, 9)", table.seat(0, 8, 9), true);
        CHECK.due("seat(5, 10, 11)", table.seat(5, 10, 11), true);
        CHECK.due("cards(0)", table.cards(0), set(8, 9));
        CHECK.due("cards(5)", table.cards(5), set(10, 11));
        CHECK.due("cards(6)", table.cards(6), 0);
    }

    /** "CARDS are 0 .. 51": the least and the greatest, as one and as the other. */
    private static void leastAndGreatestCard() {
        HandTables table = new HandTables();
        CHECK.due("seat(1, 0, 51)", table.seat(1, 0, 51), true);
        CHECK.due("cards(1)", table.cards(1), set(0, 51));
        CHECK.due("seat(1, 51, 0)", table.seat(1, 51, 0), true);
        CHECK.due("cards(1) then", table.cards(1), set(0, 51));
        CHECK.due("leave(1)", table.leave(1), true);
        CHECK.due("board(0)", table.board(0), 1);
        CHECK.due("board(51)", table.board(51), 2);
        CHECK.due("cards(6)", table.cards(6), set(0, 51));
        // Cards an int apart are others.
        CHECK.due("seat(2, 32, 19)", table.seat(2, 32, 19), true);
        CHECK.due("cards(2)", table.cards(2), set(19, 32));
    }

    /** seat(): "IndexOutOfBoundsException: there is no such seat." */
    private static void noSuchSeatToTake() {
        HandTables table = full();
        for (int seat : Wrong.SEATS) {
            CHECK.thrown("seat(" + seat + ", 20, 21)", NO_SEAT,
                () -> table.seat(seat, 20, 21) ? 1 : 0);
        }
        isFull("no such seat to take", table);
    }

    /** seat(): "IllegalArgumentException: one is no card." */
    private static void noCardForASeat() {
        HandTables table = full();
        for (int card : Wrong.CARDS) {
            CHECK.thrown("seat(2, " + card + ", 20)", NO_CARD,
                () -> table.seat(2, card, 20) ? 1 : 0);
            CHECK.thrown("seat(2, 20, " + card + ")", NO_CARD,
                () -> table.seat(2, 20, card) ? 1 : 0);
            CHECK.thrown("seat(2, " + card + ", " + card + ")", NO_CARD,
                () -> table.seat(2, card, card) ? 1 : 0);
        }
        isFull("no card for a seat", table);
    }

    /** "Answers whether that can be: they are two". */
    private static void notTwoCards() {
        HandTables table = new HandTables();
        for (int card : SMALL_AND_LARGE) {
            CHECK.due("the same twice for an empty seat", table.seat(3, card, card), false);
        }
        CHECK.due("cards(3) is empty still", table.cards(3), 0);
        table.seat(3, 0, 51);
        for (int card : SMALL_AND_LARGE) {
            CHECK.due("its own twice", table.seat(3, card, card), false);
        }
        CHECK.due("a free one twice", table.seat(3, 20, 20), false);
        CHECK.due("cards(3) has its two", table.cards(3), set(0, 51));
    }

    /** "And stand nowhere else on the table": at no other seat. */
    private static void cardsThatStandAtASeat() {
        for (int from = 0; from < 6; from++) {
            HandTables table = full();
            for (int to = 0; to < 6; to++) {
                if (from != to) {
                    int one = 2 * from;
                    String call = "of " + from + " for " + to;
                    CHECK.due("one " + call, table.seat(to, one, 20), false);
                    CHECK.due("one, behind, " + call, table.seat(to, 20, one), false);
                    CHECK.due("the other " + call, table.seat(to, one + 1, 20), false);
                    CHECK.due("the other, behind, " + call, table.seat(to, 20, one + 1), false);
                    CHECK.due("both " + call, table.seat(to, one, one + 1), false);
                    CHECK.due("one, and its own, " + call, table.seat(to, 2 * to, one), false);
                }
            }
            isFull("cards of other seats", table);
        }
    }

    /** "And stand nowhere else on the table": not on the board. */
    private static void cardsThatStandOnTheBoard() {
        HandTables table = full();
        for (int card = 12; card < 17; card++) {
            CHECK.due("one of the board's", table.seat(4, card, 20), false);
            CHECK.due("one of the board's, behind", table.seat(4, 20, card), false);
            CHECK.due("one of the board's, and its own", table.seat(4, 8, card), false);
        }
        CHECK.due("two of the board's", table.seat(4, 12, 16), false);
        isFull("cards of the board", table);
    }

    /** "In place of those that it had": those do not stand elsewhere, and are free then. */
    private static void inPlaceOfThoseItHad() {
        HandTables table = full();
        CHECK.due("both again", table.seat(5, 10, 11), true);
        CHECK.due("both, the other way round", table.seat(5, 11, 10), true);
        isFull("both again", table);
        CHECK.due("one again", table.seat(5, 11, 20), true);
        CHECK.due("cards(5) then", table.cards(5), set(11, 20));
        CHECK.due("the other again, behind", table.seat(5, 21, 20), true);
        CHECK.due("cards(5) with both others", table.cards(5), set(20, 21));
        CHECK.due("what it had, for another", table.seat(0, 10, 11), true);
        CHECK.due("what that one had, for it", table.seat(5, 0, 1), true);
        CHECK.due("cards(0) at last", table.cards(0), set(10, 11));
        CHECK.due("cards(5) at last", table.cards(5), set(0, 1));
        table.clear();
        CHECK.due("what it had before, for the board", table.board(20), 1);
    }

    /** "No card stands twice": every card of a full table is refused everywhere. */
    private static void fullTable() {
        HandTables table = full();
        isFull("full table", table);
        for (int card = 0; card < 17; card++) {
            CHECK.due("board(" + card + ") of a full table", table.board(card), HandTables.NONE);
        }
        CHECK.due("clear()", table.clear(), 5);
        for (int card = 0; card < 12; card++) {
            CHECK.due("board(" + card + ") of full seats", table.board(card), HandTables.NONE);
        }
        CHECK.due("cards(6)", table.cards(6), 0);
        CHECK.due("a card that the board had", table.seat(3, 16, 6), true);
    }

    /** "A seat is empty. Answers whether it had cards." */
    private static void leaveATakenSeat() {
        for (int seat = 0; seat < 6; seat++) {
            HandTables table = full();
            CHECK.due("leave(" + seat + ")", table.leave(seat), true);
            for (int other = 0; other < 6; other++) {
                CHECK.due("cards(" + other + ") after leave(" + seat + ")", table.cards(other),
                    other == seat ? 0 : 3L << (2 * other));
            }
            CHECK.due("the board after leave(" + seat + ")", table.cards(6), 31L << 12);
            CHECK.due("its cards are free", table.seat(seat, 2 * seat + 1, 2 * seat), true);
            isFull("seated again", table);
        }
    }

    /** leave() of a seat without cards: false, and nothing changes. */
    private static void leaveAnEmptySeat() {
        HandTables table = new HandTables();
        table.board(0);
        for (int seat = 0; seat < 6; seat++) {
            CHECK.due("leave(" + seat + ") at first", table.leave(seat), false);
        }
        table.seat(0, 8, 9);
        table.seat(5, 10, 11);
        CHECK.due("leave(5)", table.leave(5), true);
        CHECK.due("leave(5) again", table.leave(5), false);
        CHECK.due("cards(0)", table.cards(0), set(8, 9));
        CHECK.due("cards(6)", table.cards(6), set(0));
    }

    /** leave(): "IndexOutOfBoundsException: there is no such seat." The board is none. */
    private static void noSuchSeatToLeave() {
        HandTables table = full();
        for (int seat : Wrong.SEATS) {
            CHECK.thrown("leave(" + seat + ")", NO_SEAT, () -> table.leave(seat) ? 1 : 0);
        }
        isFull("no such seat to leave", table);
    }

    /** "A card comes to the board. Answers how many it has": of none, and up to five. */
    private static void boardFromEmptyToFull() {
        HandTables table = new HandTables();
        for (int round = 0; round < 2; round++) {
            int[] come = {51, 0, 31, 32, 20};
            long board = 0;
            for (int i = 0; i < 5; i++) {
                CHECK.due("board(" + come[i] + ")", table.board(come[i]), i + 1);
                board |= 1L << come[i];
                CHECK.due("cards(6)", table.cards(6), board);
            }
            CHECK.due("clear()", table.clear(), 5);
        }
    }

    /** "NONE when there are five". */
    private static void sixthCard() {
        HandTables table = full();
        for (int card = 0; card < 52; card++) {
            CHECK.due("board(" + card + ") of five", table.board(card), HandTables.NONE);
        }
        isFull("a sixth card", table);
    }

    /** "NONE when .. the card stands on the table". */
    private static void cardThatStands() {
        for (int size = 1; size < 5; size++) {
            HandTables table = new HandTables();
            table.seat(0, 0, 1);
            table.seat(5, 51, 50);
            for (int i = 0; i < size; i++) {
                table.board(20 + i);
            }
            for (int card : new int[] {0, 1, 50, 51, 20, 19 + size}) {
                CHECK.due("board(" + card + ") that stands", table.board(card), HandTables.NONE);
            }
            CHECK.due("cards(6)", table.cards(6), ((1L << size) - 1) << 20);
            table.leave(5);
            CHECK.due("board(51) that was left", table.board(51), size + 1);
        }
    }

    /** board(): "IllegalArgumentException: it is no card." */
    private static void noCardForTheBoard() {
        for (int size = 0; size <= 5; size++) {
            HandTables table = new HandTables();
            for (int i = 0; i < size; i++) {
                table.board(20 + i);
            }
            for (int card : Wrong.CARDS) {
                CHECK.thrown("board(" + card + ") of " + size, NO_CARD, () -> table.board(card));
            }
            CHECK.due("cards(6)", table.cards(6), ((1L << size) - 1) << 20);
        }
    }

    /** "The board has no cards. Answers how many it had": of none, and of five. */
    private static void clearEveryBoard() {
        for (int size = 0; size <= 5; size++) {
            HandTables table = new HandTables();
            table.seat(0, 0, 51);
            table.draw();
            for (int i = 0; i < size; i++) {
                table.board(20 + i);
            }
            CHECK.due("clear() of " + size, table.clear(), size);
            CHECK.due("cards(6) then", table.cards(6), 0);
            CHECK.due("cards(0) then", table.cards(0), set(0, 51));
            CHECK.due("clear() again", table.clear(), 0);
            CHECK.due("draw() then", table.draw(), 1);
            CHECK.due("a card that was there", table.seat(1, 20, 24), true);
            CHECK.due("another that was there", table.board(22), 1);
        }
    }

    /** "The cards of a seat; 0 when it is empty." */
    private static void cardsOfAnEmptySeat() {
        HandTables table = full();
        for (int seat = 0; seat < 6; seat++) {
            table.leave(seat);
            CHECK.due("cards(" + seat + ") when it is left", table.cards(seat), 0);
        }
        CHECK.due("cards(6) when all are left", table.cards(6), 31L << 12);
    }

    /** "With seat 6 those of the board": with none of them, too. */
    private static void cardsOfTheBoard() {
        HandTables table = new HandTables();
        table.seat(0, 1, 2);
        CHECK.due("cards(6) of none", table.cards(6), 0);
        table.board(51);
        CHECK.due("cards(6) of one", table.cards(6), set(51));
        CHECK.due("cards(5) beside it", table.cards(5), 0);
    }

    /** cards(): "IndexOutOfBoundsException: there is no such seat." */
    private static void noSuchSeatWithCards() {
        HandTables table = full();
        for (int seat : Wrong.SEATS_AND_BOARD) {
            CHECK.thrown("cards(" + seat + ")", NO_SEAT, () -> table.cards(seat));
        }
    }

    /** hand(): "IllegalStateException: .. the board has less than three cards." */
    private static void handOnEveryBoard() {
        String board = "Qs Js 9s 9d Ts";
        for (int size = 0; size <= 2; size++) {
            HandTables table = Tables.of(Tables.part(board, size), "", "As Ks");
            CHECK.thrown("hand(1) on " + size, NOT_NOW, () -> table.hand(1));
        }
        CHECK.due("hand(1) on 3", Tables.of("Qs Js 9s", "", "As Ks").hand(1), 7139);
        CHECK.due("hand(1) on 4", Tables.of("Qs Js 9s 9d", "", "As Ks").hand(1), 7139);
        CHECK.due("hand(1) on 5", Tables.of(board, "", "As Ks").hand(1), 7461);
        CHECK.due("the least hand", Tables.of("2c 3d 4h", "5s 7c").hand(0), 0);
        HandTables table = Tables.of(board, "", "As Ks");
        table.clear();
        CHECK.thrown("hand(1) when the board is cleared", NOT_NOW, () -> table.hand(1));
    }

    /** hand(): "IllegalStateException: it is empty". */
    private static void handOfAnEmptySeat() {
        String board = "Qs Js 9s 9d Ts";
        for (int size = 0; size <= 5; size++) {
            HandTables table = Tables.of(Tables.part(board, size), "2c 2d", "As Ks");
            for (int seat = 2; seat < 6; seat++) {
                int at = seat;
                CHECK.thrown("hand(" + seat + ") of none", NOT_NOW, () -> table.hand(at));
            }
            table.leave(1);
            CHECK.thrown("hand(1) when it is left", NOT_NOW, () -> table.hand(1));
        }
    }

    /** hand(): "IndexOutOfBoundsException: there is no such seat." The board is none. */
    private static void noSuchSeatWithAHand() {
        HandTables table = full();
        for (int seat : Wrong.SEATS) {
            CHECK.thrown("hand(" + seat + ")", NO_SEAT, () -> table.hand(seat));
        }
    }
}
