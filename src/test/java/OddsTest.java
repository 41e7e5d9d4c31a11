/** Promises 14 to 18: ahead, boards, wins, outs, share. */
public final class OddsTest {
    private static final Check CHECK = new Check("OddsTest");
    private static final Class<IllegalStateException> TOO_EARLY = IllegalStateException.class;

    public static void main(String[] args) {
        aheadNow();
        boardsToCome();
        winsOfALoneSeat();
        winsAndShares();
        outsOfTwo();
        sharesOfAPot();
        CHECK.finish();
    }

    private static void aheadNow() {
        CHECK.due("ahead: one", Tables.of("2c 7d 9h", "Ac Kd", "9c 3d").ahead(), 2);
        CHECK.due("ahead: the last seat",
            Tables.of("2c 7d 9h", "", "", "", "", "", "3s 4d").ahead(), 32);
        CHECK.due("ahead: two", Tables.of("2c 7d 9h", "Ac Kd", "", "4h 5h", "As Kh").ahead(), 9);
        CHECK.due("ahead: all on a full board", Tables.of("Ts Js Qs Ks As", "2c 2d", "2h 2s",
            "3c 3d", "4c 4d", "5c 5d", "6c 6d").ahead(), 63);
        CHECK.due("ahead: with four cards", Tables.of("2c 7d 9h Ah", "Ac Kd", "9c 3d").ahead(), 1);
        CHECK.thrown("ahead: a small board", TOO_EARLY, () -> Tables.of("2c 7d", "Ac Kd").ahead());
        CHECK.thrown("ahead: no board", TOO_EARLY, () -> Tables.of("", "Ac Kd").ahead());
        CHECK.thrown("ahead: no seats", TOO_EARLY, () -> Tables.of("2c 7d 9h").ahead());
        CHECK.thrown("ahead: nothing", TOO_EARLY, () -> Tables.of("").ahead());
    }

    private static void boardsToCome() {
        CHECK.due("boards: no seats", Tables.of("2c 7d 9h").boards(), 49 * 48 / 2);
        CHECK.due("boards: one seat", Tables.of("2c 7d 9h", "Ac Kd").boards(), 47 * 46 / 2);
        CHECK.due("boards: all seats", Tables.of("2c 7d 9h", "Ts Js", "Qs Ks", "3c 3d", "4c 4d",
            "5c 5d", "6c 6d").boards(), 37 * 36 / 2);
        CHECK.due("boards: no seats, four", Tables.of("2c 7d 9h Th").boards(), 48);
        CHECK.due("boards: two seats, four",
            Tables.of("2c 7d 9h Th", "Ac Kd", "3c 3d").boards(), 44);
        CHECK.due("boards: five", Tables.of("2c 7d 9h Th As", "Ac Kd").boards(), 1);
        CHECK.due("boards: no seats, five", Tables.of("2c 7d 9h Th As").boards(), 1);
        CHECK.thrown("boards: two cards", TOO_EARLY, () -> Tables.of("2c 7d", "Ac Kd").boards());
        CHECK.thrown("boards: none", TOO_EARLY, () -> Tables.of("").boards());
    }

    private static void winsOfALoneSeat() {
        HandTables table = Tables.of("2c 7d 9h", "", "", "", "", "", "Ac Kd");
        CHECK.due("alone: wins(5, 0)", table.wins(5, 0), 1081);
        CHECK.due("alone: wins(5, 1)", table.wins(5, 1), 0);
        table.board(50);
        CHECK.due("alone, four: wins(5, 0)", table.wins(5, 0), 46);
        table.board(47);
        CHECK.due("alone, five: wins(5, 0)", table.wins(5, 0), 1);
        CHECK.due("alone, five: wins(5, 1)", table.wins(5, 1), 0);
        CHECK.due("cards(6) is as it was", Long.bitCount(table.cards(6)), 5);
    }

    private static void wins(String of, HandTables table, int seat, int wins, int shares) {
        CHECK.due(of + ": wins(" + seat + ", 0)", table.wins(seat, 0), wins);
        CHECK.due(of + ": wins(" + seat + ", 1)", table.wins(seat, 1), shares);
    }

    private static void winsAndShares() {
        HandTables table = Tables.of("Ah Kd 7c 2s", "Ac Qd", "Kh Ks");
        wins("one more ace is not enough", table, 0, 0, 0);
        wins("one more ace is not enough", table, 1, 44, 0);

        table = Tables.of("Ts Js Qs Ks As", "2c 2d", "", "2h 2s");
        wins("the board itself", table, 0, 0, 1);
        wins("the board itself", table, 2, 0, 1);

        table = Tables.of("Ts Js Qs 2c 3c", "Ac Kd", "Ad Kh", "4c 4d");
        wins("two of three", table, 0, 0, 1);
        wins("two of three", table, 1, 0, 1);
        wins("two of three", table, 2, 0, 0);

        // The ranks are the same, but one of nine more hearts makes a flush for the first.
        table = Tables.of("2h 7d 9h", "Ah Kh", "Ac Kd");
        wins("a flush or the same", table, 0, 990 - 36 * 35 / 2, 36 * 35 / 2);
        wins("a flush or the same", table, 1, 0, 36 * 35 / 2);

        table = Tables.of("9c 9d 2h 3s", "9h Kd", "As 4d");
        wins("four more fives make a straight", table, 0, 40, 0);
        wins("four more fives make a straight", table, 1, 4, 0);
    }

    private static void outsOfTwo() {
        HandTables table = Tables.of("9c 9d 2h 3s", "9h Kd", "As 4d");
        CHECK.due("outs: a straight", table.outs(1), Cards.set("5c 5d 5h 5s"));
        CHECK.due("outs: all others", Long.bitCount(table.outs(0)), 40);
        CHECK.due("outs: none of both", table.outs(0) & table.outs(1), 0);

        table = Tables.of("2c 7d 9h", "Ac Kd", "3s 3d");
        CHECK.due("outs: with three", table.outs(0), Cards.set("Ad Ah As Kc Kh Ks"));

        table = Tables.of("2c 7d 9h", "Ac Kd", "As Kh");
        CHECK.due("outs: none alone", table.outs(0), 0);

        long lone = Tables.of("2c 7d 9h", "", "", "", "Ac Kd").outs(3);
        CHECK.due("outs: all that are free", lone,
            ((1L << 52) - 1) & ~Cards.set("2c 7d 9h Ac Kd"));
    }

    private static void share(HandTables table, int pot, int... due) {
        for (int seat = 0; seat < due.length; seat++) {
            if (due[seat] >= 0) {
                CHECK.due("share(" + seat + ", " + pot + ")", table.share(seat, pot), due[seat]);
            }
        }
    }

    private static void sharesOfAPot() {
        HandTables all = Tables.of("Ts Js Qs Ks As", "2c 2d", "", "2h 2s", "3c 3d", "", "4c 4d");
        share(all, 0, 0, -1, 0, 0, -1, 0);
        share(all, 1, 1, -1, 0, 0, -1, 0);
        share(all, 6, 2, -1, 2, 1, -1, 1);
        share(all, 7, 2, -1, 2, 2, -1, 1);
        share(all, 8, 2, -1, 2, 2, -1, 2);
        share(all, Integer.MAX_VALUE, 536870912, -1, 536870912, 536870912, -1, 536870911);

        HandTables two = Tables.of("Ts Js Qs 2c 3c", "4c 4d", "Ac Kd", "5c 5d", "", "", "Ad Kh");
        share(two, 101, 0, 51, 0, -1, -1, 50);
        share(two, 100, 0, 50, 0, -1, -1, 50);

        HandTables one = Tables.of("Ts Js Qs 2c 3c", "4c 4d", "Ac Kd");
        share(one, Integer.MAX_VALUE, 0, Integer.MAX_VALUE);
    }
}
