import java.util.Random;

/** Promises 2 to 7: value, category, best, worth, sets, first. */
public final class ValuesTest {
    private static final Check CHECK = new Check("ValuesTest");
    private static final HandTables HANDS = new HandTables();
    private static final long[] NO_HANDS = {
        0L, 1L, 15L, 255L, (1L << 52) - 1, 1L << 52, 15L | 1L << 52, 31L | 1L << 52,
        31L | Long.MIN_VALUE, 15L | Long.MIN_VALUE, Long.MIN_VALUE, Long.MAX_VALUE, -1L,
        31L << 48, 0x7FL << 57
    };

    public static void main(String[] args) {
        Reference reference = new Reference();
        CHECK.due("worths that there are", reference.count(), 7462);
        valuesStandFor(reference);
        allFives(reference);
        someOfMore(reference, 6);
        someOfMore(reference, 7);
        handsOfEveryKind();
        bestFives();
        wrongInputs();
        CHECK.finish();
    }

    private static void valuesStandFor(Reference reference) {
        for (int value = 0; value < reference.count(); value++) {
            CHECK.due("worth(" + value + ")", HANDS.worth(value), reference.worth(value));
            CHECK.due("sets(" + value + ")", HANDS.sets(value), reference.sets(value));
        }
        for (int category = 0; category <= 9; category++) {
            CHECK.due("first(" + category + ")", HANDS.first(category), reference.first(category));
        }
        CHECK.due("first(9)", HANDS.first(9), 7462);
    }

    private static void allFives(Reference reference) {
        int[] five = new int[5];
        for (five[0] = 0; five[0] < 52; five[0]++) {
            for (five[1] = 0; five[1] < five[0]; five[1]++) {
                for (five[2] = 0; five[2] < five[1]; five[2]++) {
                    for (five[3] = 0; five[3] < five[2]; five[3]++) {
                        for (five[4] = 0; five[4] < five[3]; five[4]++) {
                            oneFive(reference, five);
                        }
                    }
                }
            }
        }
    }

    private static void oneFive(Reference reference, int[] five) {
        long cards = 0;
        for (int card : five) {
            cards |= 1L << card;
        }
        int value = reference.valueOfFive(five);
        CHECK.due("value of five", HANDS.value(cards), value);
        CHECK.due("category of five", HANDS.category(cards), reference.category(value));
        CHECK.due("best of five", HANDS.best(cards), cards);
    }

    private static void someOfMore(Reference reference, int count) {
        Random random = new Random(count);
        for (int i = 0; i < 60000; i++) {
            // Cards of few ranks or few suits, so that the rare categories come too.
            long from = i % 3 == 0 ? (1L << 52) - 1 : i % 3 == 1 ? 0xFFFFFL << 4 * (i % 9)
                : 0x3333333333333L;
            long cards = 0;
            while (Long.bitCount(cards) < count) {
                cards |= from & 1L << random.nextInt(52);
            }
            int value = reference.value(cards);
            CHECK.due("value(" + cards + ")", HANDS.value(cards), value);
            CHECK.due("category(" + cards + ")", HANDS.category(cards), reference.category(value));
            CHECK.due("best(" + cards + ")", HANDS.best(cards), reference.best(cards));
        }
    }

    private static void hand(String names, int category, int value) {
        CHECK.due("category of " + names, HANDS.category(Cards.set(names)), category);
        CHECK.due("value of " + names, HANDS.value(Cards.set(names)), value);
    }

    private static void handsOfEveryKind() {
        hand("7c 5d 4h 3s 2c", 0, 0);
        hand("Ac Kd Qh Js 9c", 0, 1276);
        hand("2c 2d 5h 4s 3c", 1, 1277);
        hand("Ac Ad Kh Qs Jc", 1, 4136);
        hand("3c 3d 2h 2s 4c", 2, 4137);
        hand("Ac Ad Kh Ks Qc", 2, 4994);
        hand("2c 2d 2h 4s 3c", 3, 4995);
        hand("Ac Ad Ah Ks Qc", 3, 5852);
        hand("Ac 2d 3h 4s 5c", 4, 5853);
        hand("Ac Kd Qh Js Tc", 4, 5862);
        hand("7c 5c 4c 3c 2c", 5, 5863);
        hand("Ac Kc Qc Jc 9c", 5, 7139);
        hand("2c 2d 2h 3s 3c", 6, 7140);
        hand("Ac Ad Ah Ks Kc", 6, 7295);
        hand("2c 2d 2h 2s 3c", 7, 7296);
        hand("Ac Ad Ah As Kc", 7, 7451);
        hand("As 2s 3s 4s 5s", 8, 7452);
        hand("As Ks Qs Js Ts", 8, 7461);
        // No straight goes round the ace.
        hand("Qc Kd Ah 2s 3c", 0, HANDS.value(Cards.set("3c 2d Ah Ks Qc")));
        // A flush and a straight that are not of the same five.
        hand("2s 3s 4s 5s 6d 9s", 5, HANDS.value(Cards.set("2s 3s 4s 5s 9s")));
        // Of two threes the higher one leads; of three pairs the third is one of the others.
        hand("9c 9d 9h 4s 4c 4d 2c", 6, HANDS.value(Cards.set("9c 9d 9h 4s 4c")));
        hand("9c 9d 7h 7s 4c 4d 2c", 2, HANDS.value(Cards.set("9c 9d 7h 7s 4c")));
        hand("9c 9d 7h 7s 4c 4d Ac", 2, HANDS.value(Cards.set("9c 9d 7h 7s Ac")));
        hand("9c 9d 9h 9s 4c 4d 4h", 7, HANDS.value(Cards.set("9c 9d 9h 9s 4c")));
    }

    private static void best(String names, String want) {
        CHECK.due("best of " + names, HANDS.best(Cards.set(names)), Cards.set(want));
    }

    private static void bestFives() {
        best("2c 3d 4h 5s 6c 6d 6h", "2c 3d 4h 5s 6h");
        best("2c 2d 3c 4d 5h 6s", "2d 3c 4d 5h 6s");
        best("2c 2d 2h 2s 3c 3d", "2c 2d 2h 2s 3d");
        best("Ac Ad 2c 3d 4h 5s 9c", "Ad 2c 3d 4h 5s");
        best("2s 3s 4s 5s 6s 7s 8s", "4s 5s 6s 7s 8s");
        best("9c 9d 9h 4s 4c 4d 2c", "9c 9d 9h 4s 4d");
        best("9c 9d 7h 7s 4c 4d 2c", "9c 9d 7h 7s 4d");
    }

    private static void wrongInputs() {
        Class<IllegalArgumentException> wrong = IllegalArgumentException.class;
        for (long cards : NO_HANDS) {
            CHECK.thrown("value(" + cards + ")", wrong, () -> HANDS.value(cards));
            CHECK.thrown("category(" + cards + ")", wrong, () -> HANDS.category(cards));
            CHECK.thrown("best(" + cards + ")", wrong, () -> HANDS.best(cards));
        }
        for (int value : new int[] {-1, 7462, 7463, Integer.MIN_VALUE, Integer.MAX_VALUE}) {
            CHECK.thrown("worth(" + value + ")", wrong, () -> HANDS.worth(value));
            CHECK.thrown("sets(" + value + ")", wrong, () -> HANDS.sets(value));
        }
        for (int category : new int[] {-1, 10, Integer.MIN_VALUE, Integer.MAX_VALUE}) {
            CHECK.thrown("first(" + category + ")", wrong, () -> HANDS.first(category));
        }
    }
}
