import java.util.Random;

/**
 * All promises, and that refused calls change nothing: runs of calls chosen by chance (always the
 * same, as the seeds are written down) give what the model gives. After each call the whole
 * table is read.
 */
public final class RunsTest {
    private static final Check CHECK = new Check("RunsTest");
    private static final int RUNS = 250;
    /** With seven reads after each, no object is asked more than 512 times. */
    private static final int CALLS = 64;

    private final Random random;
    private final HandTables table = new HandTables();
    private final Model model;

    private RunsTest(int seed, Reference reference) {
        random = new Random(seed);
        model = new Model(reference);
    }

    public static void main(String[] args) {
        Reference reference = new Reference();
        for (int run = 0; run < RUNS; run++) {
            RunsTest test = new RunsTest(run, reference);
            for (int call = 0; call < CALLS; call++) {
                test.anyCall("run " + run + ", call " + call + ": ");
            }
        }
        CHECK.finish();
    }

    private void anyCall(String where) {
        switch (random.nextInt(12)) {
            case 0:
            case 1:
            case 2:
                seats(where);
                break;
            case 3:
            case 4:
            case 5:
                boards(where);
                break;
            case 6:
                hands(where);
                break;
            case 7:
                deck(where);
                break;
            default:
                odds(where);
                break;
        }
        for (int seat = 0; seat <= 6; seat++) {
            CHECK.due(where + "then cards(" + seat + ")", table.cards(seat), model.cards(seat));
        }
    }

    private void seats(String where) {
        int seat = seat();
        if (random.nextInt(5) == 0) {
            same(where + "leave(" + seat + ")", () -> table.leave(seat) ? 1 : 0,
                () -> model.leave(seat));
            return;
        }
        int one = card();
        int other = card();
        same(where + "seat(" + seat + ", " + one + ", " + other + ")",
            () -> table.seat(seat, one, other) ? 1 : 0, () -> model.seat(seat, one, other));
    }

    private void boards(String where) {
        if (random.nextInt(12) == 0) {
            same(where + "clear()", table::clear, model::clear);
            return;
        }
        int card = card();
        same(where + "board(" + card + ")", () -> table.board(card), () -> model.board(card));
    }

    private void hands(String where) {
        long cards = Cards.some(random, 4 + random.nextInt(5));
        int value = random.nextInt(7500) - 19;
        int category = random.nextInt(12) - 1;
        switch (random.nextInt(6)) {
            case 0:
                same(where + "value(" + cards + ")", () -> table.value(cards),
                    () -> model.value(cards));
                break;
            case 1:
                same(where + "category(" + cards + ")", () -> table.category(cards),
                    () -> model.category(cards));
                break;
            case 2:
                same(where + "best(" + cards + ")", () -> table.best(cards),
                    () -> model.best(cards));
                break;
            case 3:
                same(where + "worth(" + value + ")", () -> table.worth(value),
                    () -> model.worth(value));
                break;
            case 4:
                same(where + "sets(" + value + ")", () -> table.sets(value),
                    () -> model.sets(value));
                break;
            default:
                same(where + "first(" + category + ")", () -> table.first(category),
                    () -> model.first(category));
                break;
        }
    }

    private void odds(String where) {
        int seat = seat();
        int what = random.nextInt(8) == 0 ? random.nextInt(5) - 2 : random.nextInt(2);
        int pot = random.nextInt(40) - 2;
        switch (random.nextInt(6)) {
            case 0:
                same(where + "hand(" + seat + ")", () -> table.hand(seat), () -> model.hand(seat));
                break;
            case 1:
                same(where + "ahead()", table::ahead, model::ahead);
                break;
            case 2:
                same(where + "boards()", table::boards, model::boards);
                break;
            case 3:
                same(where + "wins(" + seat + ", " + what + ")", () -> table.wins(seat, what),
                    () -> model.wins(seat, what));
                break;
            case 4:
                same(where + "outs(" + seat + ")", () -> table.outs(seat), () -> model.outs(seat));
                break;
            default:
                same(where + "share(" + seat + ", " + pot + ")", () -> table.share(seat, pot),
                    () -> model.share(seat, pot));
                break;
        }
    }

    private void deck(String where) {
        if (random.nextInt(6) > 0) {
            same(where + "draw()", table::draw, model::draw);
            return;
        }
        int seed = random.nextInt();
        model.shuffle(seed);
        table.shuffle(seed);
    }

    private int seat() {
        return random.nextInt(16) == 0 ? random.nextInt(12) - 3 : random.nextInt(6);
    }

    private int card() {
        return random.nextInt(24) == 0 ? random.nextInt(140) - 70 : random.nextInt(52);
    }

    private static void same(String call, Check.Call got, Check.Call want) {
        CHECK.same(call, Check.outcome(got), Check.outcome(want));
    }
}
