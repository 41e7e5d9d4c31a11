/** The edges of promises 14 to 18; the document's words stand above each. */
public final class OddsEdgesTest {
    private static final Check CHECK = new Check("OddsEdgesTest");
    private static final Class<IndexOutOfBoundsException> NO_SEAT = IndexOutOfBoundsException.class;
    private static final Class<IllegalArgumentException> WRONG = IllegalArgumentException.class;
    private static final Class<IllegalStateException> NOT_NOW = IllegalStateException.class;
    private static final String ROYAL = "Ts Js Qs Ks As";
    private static final String BOARD = "2h 7d 9h Jc 3h";
    private static final String[] THREE_SEATS = {"Ah Kh", "", "Ac Kd", "", "", "8c 8d"};
    private static final String[] SIX_SEATS = {
        "2c 2d", "4c 4d", "5c 5d", "6c 6d", "7c 8d", "9c 9d"
    };
    private static final int[] EMPTY_OF_THREE = {1, 3, 4};

    public static void main(String[] args) {
        aheadOnEveryBoard();
        aheadOfNone();
        aheadOfOneAndOfAll();
        aheadWithTheLeastHand();
        boardsOfEverySize();
        winsOnEveryBoard();
        winsOfAnEmptySeat();
        winsOfNoSeat();
        anotherWhat();
        winsAloneAndOfAll();
        sharedIsNotWon();
        outsOnEveryBoard();
        outsOfAnEmptySeat();
        outsOfNoSeat();
        outsNoneAndAll();
        outsAreAlone();
        shareOnEveryBoard();
        shareOfAnEmptySeat();
        shareOfNoSeat();
        potBelowNothing();
        potsOfSix();
        lesserSeatsFirst();
        greatestPot();
        CHECK.finish();
    }

    private static HandTables three(int boardSize) {
        return Tables.of(Tables.part(BOARD, boardSize), THREE_SEATS);
    }

    /** ahead(): "IllegalStateException: .. the board has less than three cards." */
    private static void aheadOnEveryBoard() {
        for (int size = 0; size <= 2; size++) {
            HandTables table = three(size);
            CHECK.thrown("ahead() on " + size, NOT_NOW, table::ahead);
        }
        CHECK.due("ahead() on 3", three(3).ahead(), 32);
        CHECK.due("ahead() on 4", three(4).ahead(), 32);
        CHECK.due("ahead() on 5", three(5).ahead(), 1);
        HandTables table = three(5);
        table.clear();
        CHECK.thrown("ahead() when the board is cleared", NOT_NOW, table::ahead);
    }

    /** ahead(): "IllegalStateException: all are empty". */
    private static void aheadOfNone() {
        for (int size = 0; size <= 5; size++) {
            HandTables table = Tables.of(Tables.part(BOARD, size));
            CHECK.thrown("ahead() of none on " + size, NOT_NOW, table::ahead);
        }
        HandTables left = three(5);
        left.leave(0);
        CHECK.due("ahead() when the best is left", left.ahead(), 32);
        left.leave(5);
        CHECK.due("ahead() when one stays", left.ahead(), 4);
        left.leave(2);
        CHECK.thrown("ahead() when all are left", NOT_NOW, left::ahead);
    }

    /** "The seats whose hands, as they are, have the greatest value, as bits": one, some, all. */
    private static void aheadOfOneAndOfAll() {
        for (int seat = 0; seat < 6; seat++) {
            HandTables table = Tables.of(BOARD);
            table.seat(seat, 0, 1);
            CHECK.due("ahead() of seat " + seat + " alone", table.ahead(), 1 << seat);
        }
        CHECK.due("ahead() of all", Tables.of(ROYAL, SIX_SEATS).ahead(), 63);
        CHECK.due("ahead() of the first and the last", Tables.of("2c 7d 9h", "Ac Kd", "3c 4d",
            "3d 4h", "3h 4s", "5c 6d", "Ad Kc").ahead(), 33);
        // As they are: what can still come does not count.
        CHECK.due("ahead() now", Tables.of("Ts Js Qs", "Ks 2c", "2d 2h").ahead(), 2);
    }

    /** A hand of value 0 is a hand, and ahead when it is alone, or shared. */
    private static void aheadWithTheLeastHand() {
        CHECK.due("ahead() with 0", Tables.of("2c 3d 4h", "", "", "", "5s 7c").ahead(), 8);
        CHECK.due("ahead() with 0, shared", Tables.of("2c 3d 4h", "5d 7h", "", "", "5s 7c").ahead(),
            9);
    }

    /** "All ways to bring it to five with cards that stand nowhere"; "it has less than three". */
    private static void boardsOfEverySize() {
        int[] ofNoSeats = {0, 0, 0, 1176, 48, 1};
        int[] ofThree = {0, 0, 0, 903, 42, 1};
        int[] ofSix = {0, 0, 0, 666, 36, 1};
        for (int size = 0; size <= 5; size++) {
            HandTables none = Tables.of(Tables.part(BOARD, size));
            HandTables some = three(size);
            HandTables all = Tables.of(Tables.part(ROYAL, size), SIX_SEATS);
            if (size < 3) {
                CHECK.thrown("boards() of none on " + size, NOT_NOW, none::boards);
                CHECK.thrown("boards() of three on " + size, NOT_NOW, some::boards);
                CHECK.thrown("boards() of six on " + size, NOT_NOW, all::boards);
            } else {
                CHECK.due("boards() of none on " + size, none.boards(), ofNoSeats[size]);
                CHECK.due("boards() of three on " + size, some.boards(), ofThree[size]);
                CHECK.due("boards() of six on " + size, all.boards(), ofSix[size]);
            }
        }
        HandTables drawn = three(3);
        drawn.draw();
        CHECK.due("boards() when a card is drawn", drawn.boards(), 903);
    }

    private static void wins(String of, HandTables table, int seat, int wins, int shares) {
        CHECK.due(of + ": wins(" + seat + ", 0)", table.wins(seat, 0), wins);
        CHECK.due(of + ": wins(" + seat + ", 1)", table.wins(seat, 1), shares);
    }

    /** wins(): "IllegalStateException: .. the board has less than three cards." */
    private static void winsOnEveryBoard() {
        for (int size = 0; size <= 2; size++) {
            HandTables table = three(size);
            CHECK.thrown("wins(0, 0) on " + size, NOT_NOW, () -> table.wins(0, 0));
            CHECK.thrown("wins(5, 1) on " + size, NOT_NOW, () -> table.wins(5, 1));
        }
        wins("on 3", three(3), 0, 329, 122);
        wins("on 3", three(3), 2, 0, 122);
        wins("on 3", three(3), 5, 452, 0);
        wins("on 4", three(4), 0, 9, 4);
        wins("on 4", three(4), 2, 0, 4);
        wins("on 4", three(4), 5, 29, 0);
        wins("on 5", three(5), 0, 1, 0);
        wins("on 5", three(5), 2, 0, 0);
        wins("on 5", three(5), 5, 0, 0);
    }

    /** wins(): "IllegalStateException: it is empty". */
    private static void winsOfAnEmptySeat() {
        for (int size = 0; size <= 5; size++) {
            HandTables table = three(size);
            for (int seat : EMPTY_OF_THREE) {
                CHECK.thrown("wins(" + seat + ", 0) of none", NOT_NOW, () -> table.wins(seat, 0));
                CHECK.thrown("wins(" + seat + ", 1) of none", NOT_NOW, () -> table.wins(seat, 1));
            }
            table.leave(0);
            CHECK.thrown("wins(0, 0) when it is left", NOT_NOW, () -> table.wins(0, 0));
        }
    }

    /** wins(): "IndexOutOfBoundsException: there is no such seat." The board is none. */
    private static void winsOfNoSeat() {
        for (int seat : Wrong.SEATS) {
            CHECK.thrown("wins(" + seat + ", 0)", NO_SEAT, () -> three(5).wins(seat, 0));
            CHECK.thrown("wins(" + seat + ", 1)", NO_SEAT, () -> three(4).wins(seat, 1));
        }
    }

    /** "IllegalArgumentException: another what." */
    private static void anotherWhat() {
        for (int what : Wrong.WHATS) {
            CHECK.thrown("wins(0, " + what + ")", WRONG, () -> three(5).wins(0, what));
            CHECK.thrown("wins(5, " + what + ")", WRONG, () -> three(3).wins(5, what));
        }
    }

    /** "WINS a full board if its hand's value is greater than that of all others": of none, too. */
    private static void winsAloneAndOfAll() {
        for (int seat = 0; seat < 6; seat++) {
            HandTables alone = Tables.of("2h 7d 9h");
            alone.seat(seat, 50, 51);
            wins("alone on 3", alone, seat, 1081, 0);
            alone.board(0);
            wins("alone on 4", alone, seat, 46, 0);
            alone.board(1);
            wins("alone on 5", alone, seat, 1, 0);
            wins("all on one royal board", Tables.of(ROYAL, SIX_SEATS), seat, 0, 1);
        }
    }

    /** "SHARES it if it is the greatest, but others have it too": what is shared is not won. */
    private static void sharedIsNotWon() {
        HandTables two = Tables.of("Ts Js Qs Ks", "Ac Ad", "9c 9d");
        wins("two", two, 0, 34, 10);
        wins("two", two, 1, 0, 10);
        HandTables full = Tables.of(ROYAL, "Ac Ad", "9c 9d");
        wins("two on a full board", full, 0, 0, 1);
        wins("two on a full board", full, 1, 0, 1);
        // Others that share a lesser value do not matter.
        HandTables others = Tables.of("Ts Js 4d 2c 3c", "Ac Kd", "Ad Kh", "4c 4s");
        wins("two that are behind", others, 0, 0, 0);
        wins("two that are behind", others, 1, 0, 0);
        wins("one before two", others, 2, 1, 0);
    }

    /** outs(): "IllegalStateException: .. the board hasn't three or four cards." */
    private static void outsOnEveryBoard() {
        for (int size : new int[] {0, 1, 2, 5}) {
            HandTables table = three(size);
            CHECK.thrown("outs(0) on " + size, NOT_NOW, () -> table.outs(0));
            CHECK.thrown("outs(5) on " + size, NOT_NOW, () -> table.outs(5));
        }
        long hearts = Cards.set("3h 4h 5h 6h 7h 8h Th Jh Qh");
        CHECK.due("outs(0) on 3", three(3).outs(0), hearts);
        CHECK.due("outs(2) on 3", three(3).outs(2), 0);
        CHECK.due("outs(5) on 3", Long.bitCount(three(3).outs(5)), 30);
        CHECK.due("outs(0) on 4", three(4).outs(0), hearts);
        CHECK.due("outs(2) on 4", three(4).outs(2), 0);
        CHECK.due("outs(5) on 4", Long.bitCount(three(4).outs(5)), 29);
    }

    /** outs(): "IllegalStateException: it is empty". */
    private static void outsOfAnEmptySeat() {
        for (int size = 0; size <= 5; size++) {
            HandTables table = three(size);
            for (int seat : EMPTY_OF_THREE) {
                CHECK.thrown("outs(" + seat + ") of none", NOT_NOW, () -> table.outs(seat));
            }
            table.leave(5);
            CHECK.thrown("outs(5) when it is left", NOT_NOW, () -> table.outs(5));
        }
    }

    /** outs(): "IndexOutOfBoundsException: there is no such seat." The board is none. */
    private static void outsOfNoSeat() {
        for (int seat : Wrong.SEATS) {
            CHECK.thrown("outs(" + seat + ") on 3", NO_SEAT, () -> three(3).outs(seat));
            CHECK.thrown("outs(" + seat + ") on 4", NO_SEAT, () -> three(4).outs(seat));
        }
    }

    /** "The cards that stand nowhere": none of them, the least, the greatest, all. */
    private static void outsNoneAndAll() {
        HandTables ends = Tables.of("2d 2h 7s 9c", "2s Ks", "Ac Ad");
        CHECK.due("outs(1), with the greatest card", ends.outs(1), Cards.set("Ah As"));
        CHECK.due("outs(0), with the least card", ends.outs(0),
            ((1L << 52) - 1) & ~Cards.set("2d 2h 7s 9c 2s Ks Ac Ad Ah As"));
        for (int seat = 0; seat < 6; seat++) {
            HandTables alone = Tables.of("2h 7d 9h");
            alone.seat(seat, 50, 51);
            CHECK.due("outs(" + seat + ") alone", alone.outs(seat),
                ((1L << 52) - 1) & ~Cards.set("2h 7d 9h Ah As"));
        }
    }

    /** "This seat alone would be ahead": a card that brings others as far is none. */
    private static void outsAreAlone() {
        HandTables same = Tables.of("2c 7d 9h", "Ac Kd", "As Kh");
        CHECK.due("outs(0) of the same", same.outs(0), 0);
        CHECK.due("outs(1) of the same", same.outs(1), 0);
        HandTables two = Tables.of("Ts Js Qs Ks", "Ac Ad", "9c 9d");
        CHECK.due("outs(0) of two", Long.bitCount(two.outs(0)), 34);
        CHECK.due("outs(0) without what is shared", two.outs(0)
            & Cards.set("As Ah 9s 2s 3s 4s 5s 6s 7s 8s"), 0);
        CHECK.due("outs(1) of two", two.outs(1), 0);
    }

    private static void share(String of, HandTables table, int pot, int... due) {
        for (int seat = 0; seat < due.length; seat++) {
            CHECK.due(of + ": share(" + seat + ", " + pot + ")", table.share(seat, pot), due[seat]);
        }
    }

    /** share(): "IllegalStateException: .. the board has less than five cards." */
    private static void shareOnEveryBoard() {
        for (int size = 0; size <= 4; size++) {
            HandTables table = three(size);
            CHECK.thrown("share(0, 9) on " + size, NOT_NOW, () -> table.share(0, 9));
            CHECK.thrown("share(5, 0) on " + size, NOT_NOW, () -> table.share(5, 0));
        }
        CHECK.due("share(0, 9) on 5", three(5).share(0, 9), 9);
        CHECK.due("share(2, 9) on 5", three(5).share(2, 9), 0);
        CHECK.due("share(5, 9) on 5", three(5).share(5, 9), 0);
    }

    /** share(): "IllegalStateException: it is empty". */
    private static void shareOfAnEmptySeat() {
        for (int size = 0; size <= 5; size++) {
            HandTables table = three(size);
            for (int seat : EMPTY_OF_THREE) {
                CHECK.thrown("share(" + seat + ", 0) of none", NOT_NOW, () -> table.share(seat, 0));
                CHECK.thrown("share(" + seat + ", 9) of none", NOT_NOW, () -> table.share(seat, 9));
            }
            table.leave(0);
            CHECK.thrown("share(0, 9) when it is left", NOT_NOW, () -> table.share(0, 9));
        }
        HandTables empty = Tables.of(ROYAL);
        CHECK.thrown("share(0, 9) when all are empty", NOT_NOW, () -> empty.share(0, 9));
    }

    /** share(): "IndexOutOfBoundsException: there is no such seat." The board is none. */
    private static void shareOfNoSeat() {
        for (int seat : Wrong.SEATS) {
            CHECK.thrown("share(" + seat + ", 0)", NO_SEAT, () -> three(5).share(seat, 0));
            CHECK.thrown("share(" + seat + ", 9)", NO_SEAT, () -> three(5).share(seat, 9));
        }
    }

    /** "IllegalArgumentException: pot is below 0": 0 itself is a pot. */
    private static void potBelowNothing() {
        for (int pot : Wrong.POTS) {
            CHECK.thrown("share(0, " + pot + ") of the best", WRONG, () -> three(5).share(0, pot));
            CHECK.thrown("share(2, " + pot + ") of another", WRONG, () -> three(5).share(2, pot));
        }
        share("a pot of 0", Tables.of(ROYAL, SIX_SEATS), 0, 0, 0, 0, 0, 0, 0);
    }

    /** "As much each; of what is left, one each, the lesser seats first": by pots round six. */
    private static void potsOfSix() {
        HandTables six = Tables.of(ROYAL, SIX_SEATS);
        share("six", six, 1, 1, 0, 0, 0, 0, 0);
        share("six", six, 5, 1, 1, 1, 1, 1, 0);
        share("six", six, 6, 1, 1, 1, 1, 1, 1);
        share("six", six, 7, 2, 1, 1, 1, 1, 1);
        share("six", six, 11, 2, 2, 2, 2, 2, 1);
        share("six", six, 12, 2, 2, 2, 2, 2, 2);
        for (int pot = 0; pot < 30; pot++) {
            int sum = 0;
            for (int seat = 0; seat < 6; seat++) {
                sum += six.share(seat, pot);
            }
            CHECK.due("all shares of " + pot, sum, pot);
        }
    }

    /** "The lesser seats first": of those that share it, not of those that are behind, or empty. */
    private static void lesserSeatsFirst() {
        HandTables some = Tables.of("Ts Js 8d 2c 3h", "4c 5d", "Ac Kd", "", "Ad Kh", "5c 6d",
            "As Kc");
        some.leave(0);
        for (int pot = 9; pot <= 11; pot++) {
            CHECK.due("seat 1 of " + pot, some.share(1, pot), pot > 9 ? 4 : 3);
            CHECK.due("seat 3 of " + pot, some.share(3, pot), pot > 10 ? 4 : 3);
            CHECK.due("seat 4 of " + pot, some.share(4, pot), 0);
            CHECK.due("seat 5 of " + pot, some.share(5, pot), 3);
        }
        some.seat(0, Cards.card("Qc"), Cards.card("7d"));
        CHECK.due("a lesser seat that is behind", some.share(0, 10), 0);
        CHECK.due("the first that shares", some.share(1, 10), 4);
    }

    /** The greatest pot: what a seat gets of it is still an int. */
    private static void greatestPot() {
        int pot = Integer.MAX_VALUE;
        share("one", Tables.of("Ts Js Qs 2c 3c", "Ac Kd", "4c 4d"), pot, pot, 0);
        share("two", Tables.of(ROYAL, "2c 2d", "3c 3d"), pot, 1073741824, 1073741823);
        share("six", Tables.of(ROYAL, SIX_SEATS), pot, 357913942, 357913941, 357913941, 357913941,
            357913941, 357913941);
        share("six", Tables.of(ROYAL, SIX_SEATS), pot - 1, 357913941, 357913941, 357913941,
            357913941, 357913941, 357913941);
    }
}
