/** Promises 1, 19 and 20: the deck at first, shuffle, draw. */
public final class DeckTest {
    private static final Check CHECK = new Check("DeckTest");
    private static final int[] SEEDS = {
        0, 1, -1, 7, 12345, 2026, -987654321, Integer.MIN_VALUE, Integer.MAX_VALUE
    };

    public static void main(String[] args) {
        newDeck();
        shuffledDecks();
        shuffleBeginsAnew();
        shuffleLeavesTheTable();
        CHECK.finish();
    }

    private static void drawAll(String of, HandTables table, int[] due) {
        for (int i = 0; i < 52; i++) {
            CHECK.due(of + ", draw " + i, table.draw(), due[i]);
        }
        CHECK.due(of + ", behind all", table.draw(), HandTables.NONE);
        CHECK.due(of + ", behind all again", table.draw(), HandTables.NONE);
    }

    private static void newDeck() {
        int[] due = new int[52];
        for (int i = 0; i < 52; i++) {
            due[i] = i;
        }
        drawAll("new deck", new HandTables(), due);
    }

    /** The promise's words, in the wide numbers of a long. */
    private static int[] shuffled(int seed) {
        int[] deck = new int[52];
        for (int i = 0; i < 52; i++) {
            deck[i] = i;
        }
        long wide = seed;
        for (int i = 51; i >= 1; i--) {
            wide = (wide * 1103515245L + 12345L) & 0xFFFFFFFFL;
            int j = (int) ((wide & 0x7FFFFFFFL) / 256 % (i + 1));
            int card = deck[i];
            deck[i] = deck[j];
            deck[j] = card;
        }
        return deck;
    }

    private static void shuffledDecks() {
        for (int seed : SEEDS) {
            HandTables table = new HandTables();
            table.shuffle(seed);
            drawAll("shuffle(" + seed + ")", table, shuffled(seed));
        }
    }

    private static void shuffleBeginsAnew() {
        HandTables table = new HandTables();
        for (int seed : SEEDS) {
            table.shuffle(seed);
            int[] due = shuffled(seed);
            for (int i = 0; i < 20; i++) {
                CHECK.due("some of shuffle(" + seed + ")", table.draw(), due[i]);
            }
        }
        table.shuffle(7);
        drawAll("shuffle(7) after others", table, shuffled(7));
        table.shuffle(7);
        drawAll("shuffle(7) after all were drawn", table, shuffled(7));
    }

    private static void shuffleLeavesTheTable() {
        HandTables table = new HandTables();
        table.seat(0, 0, 1);
        table.board(2);
        table.shuffle(3);
        drawAll("shuffle(3) with cards on the table", table, shuffled(3));
        CHECK.due("cards(0)", table.cards(0), 3);
        CHECK.due("cards(6)", table.cards(6), 4);
    }
}
