/** The edges of promises 19 and 20; the document's words stand above each. */
public final class DeckEdgesTest {
    private static final Check CHECK = new Check("DeckEdgesTest");

    public static void main(String[] args) {
        firstToLastAndBehind();
        behindAllAgain();
        drawDoesNotLookAtTheTable();
        seedsThatGoRound();
        signOfTheSeed();
        shuffleFromAnyPlace();
        shuffleIsNotOfTheShuffled();
        shuffleDoesNotLookAtTheTable();
        everyCardOnce();
        CHECK.finish();
    }

    private static void drawn(String of, HandTables table, int[] due) {
        for (int i = 0; i < 52; i++) {
            CHECK.due(of + ": draw " + i, table.draw(), due[i]);
        }
        CHECK.due(of + ": behind all", table.draw(), HandTables.NONE);
    }

    private static void shuffled(String of, int seed, int[] due) {
        HandTables table = new HandTables();
        table.shuffle(seed);
        drawn(of, table, due);
    }

    /** "The card at the deck's place, which goes on; NONE behind all": 0 to 51 at first. */
    private static void firstToLastAndBehind() {
        drawn("at first", new HandTables(), Decks.AT_FIRST);
    }

    /** "NONE behind all": always, as the place does not go on there. */
    private static void behindAllAgain() {
        HandTables table = new HandTables();
        drawn("at first", table, Decks.AT_FIRST);
        for (int i = 0; i < 400; i++) {
            CHECK.due("behind all, again", table.draw(), HandTables.NONE);
        }
        table.shuffle(1);
        CHECK.due("the first after that", table.draw(), Decks.OF_1[0]);
    }

    /** Cards that stand on the table are drawn, and drawn cards do not stand there. */
    private static void drawDoesNotLookAtTheTable() {
        HandTables table = new HandTables();
        table.seat(0, 0, 1);
        table.board(2);
        CHECK.due("draw() of a seat's card", table.draw(), 0);
        CHECK.due("draw() of its other card", table.draw(), 1);
        CHECK.due("draw() of the board's card", table.draw(), 2);
        CHECK.due("draw() of a free card", table.draw(), 3);
        CHECK.due("a drawn card for the board", table.board(3), 2);
        table.clear();
        table.leave(0);
        CHECK.due("draw() goes on", table.draw(), 4);
        CHECK.due("drawn cards for a seat", table.seat(1, 0, 4), true);
    }

    /** "Seed becomes seed times 1103515245, and 12345 (as ints)". */
    private static void seedsThatGoRound() {
        shuffled("seed 0", 0, Decks.OF_0);
        shuffled("seed 1", 1, Decks.OF_1);
        shuffled("seed -1", -1, Decks.OF_MINUS_1);
    }

    /** "Without its sign's bit": so the ends of the ints are as 0 and as -1. */
    private static void signOfTheSeed() {
        shuffled("the least seed", Integer.MIN_VALUE, Decks.OF_0);
        shuffled("the greatest seed", Integer.MAX_VALUE, Decks.OF_MINUS_1);
    }

    /** "The deck is 0 to 51 again .., its place 0": wherever it was. */
    private static void shuffleFromAnyPlace() {
        for (int place : new int[] {0, 1, 51, 52, 53}) {
            HandTables table = new HandTables();
            for (int i = 0; i < place; i++) {
                table.draw();
            }
            table.shuffle(-1);
            drawn("after " + place + " draws", table, Decks.OF_MINUS_1);
        }
    }

    /** "The deck is 0 to 51 again": what a shuffle before it made is gone. */
    private static void shuffleIsNotOfTheShuffled() {
        HandTables table = new HandTables();
        table.shuffle(0);
        table.shuffle(1);
        drawn("1 after 0", table, Decks.OF_1);
        table.shuffle(1);
        table.shuffle(1);
        drawn("1 after 1", table, Decks.OF_1);
        table.shuffle(Integer.MIN_VALUE);
        drawn("the least after 1", table, Decks.OF_0);
    }

    /** "(The table is not looked at)": nor changed. */
    private static void shuffleDoesNotLookAtTheTable() {
        HandTables table = Tables.of("2c 3c 4c 5c 6c", "As Ah", "", "", "", "", "Ks Kh");
        table.shuffle(1);
        CHECK.due("cards(0)", table.cards(0), Cards.set("As Ah"));
        CHECK.due("cards(5)", table.cards(5), Cards.set("Ks Kh"));
        CHECK.due("cards(6)", table.cards(6), Cards.set("2c 3c 4c 5c 6c"));
        drawn("1 beside a table", table, Decks.OF_1);
    }

    /** A deck has each card once, whatever the seed. */
    private static void everyCardOnce() {
        int seed = Integer.MIN_VALUE;
        for (int step = 0; step < 100; step++) {
            HandTables table = new HandTables();
            table.shuffle(seed);
            long seen = 0;
            for (int i = 0; i < 52; i++) {
                seen |= 1L << table.draw();
            }
            CHECK.due("all cards of shuffle(" + seed + ")", seen, (1L << 52) - 1);
            seed += 42949673;
        }
    }
}
