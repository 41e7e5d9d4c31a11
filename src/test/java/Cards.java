import java.util.Random;

/** Sets of cards for tests, read from names such as "As Td 2c", or chosen by chance. */
final class Cards {
    private static final String RANKS = "23456789TJQKA";
    private static final String SUITS = "cdhs";

    private Cards() {
    }

    static int card(String name) {
        return RANKS.indexOf(name.charAt(0)) * 4 + SUITS.indexOf(name.charAt(1));
    }

    static long set(String names) {
        long cards = 0;
        for (String name : names.split(" ")) {
            cards |= 1L << card(name);
        }
        return cards;
    }

    static long some(Random random, int count) {
        long cards = 0;
        while (Long.bitCount(cards) < count) {
            cards |= 1L << random.nextInt(52);
        }
        return cards;
    }
}
