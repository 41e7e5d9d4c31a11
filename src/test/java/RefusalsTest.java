/**
 * "A call that throws, or answers NONE or false, changes nothing": after each such call, and after
 * each that only asks, an object answers all that it can be asked as one without that call does.
 */
public final class RefusalsTest {
    private static final Check CHECK = new Check("RefusalsTest");
    private static final String NO_SEAT = "IndexOutOfBoundsException";
    private static final String WRONG = "IllegalArgumentException";
    private static final String NOT_NOW = "IllegalStateException";
    private static final String FALSE = "0";
    private static final String NONE = "-1";
    private static final long[] NO_HANDS = {
        0L, 15L, 255L, -1L, 31L << 52, 15L | 1L << 52, 31L | 1L << 52, 31L | Long.MIN_VALUE
    };

    private interface CallOn {
        long answer(HandTables table);
    }

    public static void main(String[] args) {
        for (int state = 0; state < States.COUNT; state++) {
            noSuchSeats(state);
            noCards(state);
            wrongHandsAndValues(state);
            wrongWhatsAndPots(state);
            seatsThatCannotBe(state);
            emptySeats(state);
            boardsThatAreTooSmall(state);
            boardsThatAreFull(state);
            questions(state);
        }
        decksAtTheirEnd();
        CHECK.finish();
    }

    private static void unchanged(int state, String call, String due, CallOn made) {
        HandTables table = States.make(state);
        String where = "state " + state + ": " + call;
        CHECK.same(where, Check.outcome(() -> made.answer(table)), due);
        CHECK.same(where + " changes nothing", States.read(table),
            States.read(States.make(state)));
    }

    private static void noSuchSeats(int state) {
        for (int seat : Wrong.SEATS) {
            String at = "(" + seat + ")";
            unchanged(state, "seat" + at, NO_SEAT, table -> table.seat(seat, 20, 21) ? 1 : 0);
            unchanged(state, "leave" + at, NO_SEAT, table -> table.leave(seat) ? 1 : 0);
            unchanged(state, "hand" + at, NO_SEAT, table -> table.hand(seat));
            unchanged(state, "wins" + at, NO_SEAT, table -> table.wins(seat, 0));
            unchanged(state, "outs" + at, NO_SEAT, table -> table.outs(seat));
            unchanged(state, "share" + at, NO_SEAT, table -> table.share(seat, 9));
        }
        for (int seat : Wrong.SEATS_AND_BOARD) {
            unchanged(state, "cards(" + seat + ")", NO_SEAT, table -> table.cards(seat));
        }
    }

    private static void noCards(int state) {
        for (int card : Wrong.CARDS) {
            for (int seat : new int[] {States.TAKEN, States.EMPTY}) {
                String call = "seat " + seat + " with " + card;
                unchanged(state, call, WRONG, table -> table.seat(seat, card, 20) ? 1 : 0);
                unchanged(state, call, WRONG, table -> table.seat(seat, 20, card) ? 1 : 0);
            }
            unchanged(state, "board(" + card + ")", WRONG, table -> table.board(card));
        }
    }

    private static void wrongHandsAndValues(int state) {
        for (long cards : NO_HANDS) {
            unchanged(state, "value(" + cards + ")", WRONG, table -> table.value(cards));
            unchanged(state, "category(" + cards + ")", WRONG, table -> table.category(cards));
            unchanged(state, "best(" + cards + ")", WRONG, table -> table.best(cards));
        }
        for (int value : Wrong.VALUES) {
            unchanged(state, "worth(" + value + ")", WRONG, table -> table.worth(value));
            unchanged(state, "sets(" + value + ")", WRONG, table -> table.sets(value));
        }
        for (int category : Wrong.CATEGORIES) {
            unchanged(state, "first(" + category + ")", WRONG, table -> table.first(category));
        }
    }

    private static void wrongWhatsAndPots(int state) {
        for (int seat : new int[] {States.TAKEN, States.EMPTY}) {
            for (int what : Wrong.WHATS) {
                unchanged(state, "wins(" + seat + ", " + what + ")", WRONG,
                    table -> table.wins(seat, what));
            }
            for (int pot : Wrong.POTS) {
                unchanged(state, "share(" + seat + ", " + pot + ")", WRONG,
                    table -> table.share(seat, pot));
            }
        }
    }

    private static void seatsThatCannotBe(int state) {
        for (int seat : new int[] {States.TAKEN, States.EMPTY}) {
            unchanged(state, "seat " + seat + " with one card twice", FALSE,
                table -> table.seat(seat, 20, 20) ? 1 : 0);
            if (States.isTaken(state, States.ALSO_TAKEN)) {
                int stands = Cards.card("8d");
                unchanged(state, "seat " + seat + " with another's", FALSE,
                    table -> table.seat(seat, stands, 20) ? 1 : 0);
                unchanged(state, "seat " + seat + " with another's behind", FALSE,
                    table -> table.seat(seat, 20, stands) ? 1 : 0);
                unchanged(state, "board() with a seat's", NONE, table -> table.board(stands));
            }
            if (States.boardSize(state) > 0) {
                int stands = Cards.card("2h");
                unchanged(state, "seat " + seat + " with the board's", FALSE,
                    table -> table.seat(seat, stands, 20) ? 1 : 0);
                unchanged(state, "seat " + seat + " with the board's behind", FALSE,
                    table -> table.seat(seat, 20, stands) ? 1 : 0);
                unchanged(state, "board() with the board's", NONE, table -> table.board(stands));
            }
        }
    }

    private static void emptySeats(int state) {
        for (int seat = 0; seat < 6; seat++) {
            int at = seat;
            if (!States.isTaken(state, seat)) {
                String of = "(" + seat + ") of none";
                unchanged(state, "leave" + of, FALSE, table -> table.leave(at) ? 1 : 0);
                unchanged(state, "hand" + of, NOT_NOW, table -> table.hand(at));
                unchanged(state, "wins" + of, NOT_NOW, table -> table.wins(at, 1));
                unchanged(state, "outs" + of, NOT_NOW, table -> table.outs(at));
                unchanged(state, "share" + of, NOT_NOW, table -> table.share(at, 9));
            }
        }
        if (!States.isTaken(state, States.TAKEN)) {
            unchanged(state, "ahead() of none", NOT_NOW, HandTables::ahead);
        }
    }

    private static void boardsThatAreTooSmall(int state) {
        if (States.boardSize(state) < 3) {
            unchanged(state, "hand() too early", NOT_NOW, table -> table.hand(States.TAKEN));
            unchanged(state, "ahead() too early", NOT_NOW, HandTables::ahead);
            unchanged(state, "boards() too early", NOT_NOW, HandTables::boards);
            unchanged(state, "wins() too early", NOT_NOW, table -> table.wins(States.TAKEN, 0));
            unchanged(state, "outs() too early", NOT_NOW, table -> table.outs(States.TAKEN));
        }
        if (States.boardSize(state) < 5) {
            unchanged(state, "share() too early", NOT_NOW, table -> table.share(States.TAKEN, 9));
        }
        if (States.boardSize(state) == 0) {
            unchanged(state, "clear() of none", "0", HandTables::clear);
        }
    }

    private static void boardsThatAreFull(int state) {
        if (States.boardSize(state) == 5) {
            unchanged(state, "board() of five", NONE, table -> table.board(20));
            unchanged(state, "outs() too late", NOT_NOW, table -> table.outs(States.TAKEN));
        }
    }

    /** What only asks is promised to answer, and nothing beyond. */
    private static void questions(int state) {
        String due = States.read(States.make(state));
        HandTables table = States.make(state);
        long cards = Cards.set("2c 3d 4h 5s 7c 8d 9h");
        CHECK.due("value()", table.value(cards), 48);
        CHECK.due("category()", table.category(cards), 0);
        CHECK.due("best()", table.best(cards), Cards.set("4h 5s 7c 8d 9h"));
        CHECK.due("worth()", table.worth(7461), 216);
        CHECK.due("sets()", table.sets(7461), 4);
        CHECK.due("first()", table.first(9), 7462);
        for (int seat = 0; seat < 6; seat++) {
            int at = seat;
            table.cards(seat);
            Check.outcome(() -> table.hand(at));
            Check.outcome(() -> table.wins(at, 0));
            Check.outcome(() -> table.wins(at, 1));
            Check.outcome(() -> table.outs(at));
            Check.outcome(() -> table.share(at, 7));
        }
        table.cards(6);
        Check.outcome(table::ahead);
        Check.outcome(table::boards);
        CHECK.same("state " + state + ": questions change nothing", States.read(table), due);
    }

    private static void decksAtTheirEnd() {
        unchanged(States.FULL, "draw() behind all", NONE, HandTables::draw);
        unchanged(States.NO_SEATS, "draw() behind all", NONE, HandTables::draw);
    }
}
