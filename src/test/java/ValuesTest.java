import java.util.Random;

/** Promises 2 to 7: value, category, best, worth, sets, first, against the plain reference. */
public final class ValuesTest {
    private static final Check CHECK = new Check("ValuesTest");
    private static HandTables hands = new HandTables();
    private static int calls;

    public static void main(String[] args) {
        Reference reference = new Reference();
        CHECK.due("worths that there are", reference.count(), 7462);
        valuesStandFor(reference);
        allFives(reference);
        someOfMore(reference, 6);
        someOfMore(reference, 7);
        CHECK.finish();
    }

    /** No object is asked more than 512 times, as what it answers then is free. */
    private static HandTables hands() {
        calls++;
        if (calls == 512) {
            hands = new HandTables();
            calls = 0;
        }
        return hands;
    }

    private static void valuesStandFor(Reference reference) {
        for (int value = 0; value < reference.count(); value++) {
            CHECK.due("worth(" + value + ")", hands().worth(value), reference.worth(value));
            CHECK.due("sets(" + value + ")", hands().sets(value), reference.sets(value));
        }
        for (int category = 0; category <= 9; category++) {
            CHECK.due("first(" + category + ")", hands().first(category),
                reference.first(category));
        }
        CHECK.due("first(9)", hands().first(9), 7462);
    }

    private static void allFives(Reference reference) {
        int[] five = new int[5];
        for (five[0] = 0; five[0] < 52; five[0]++) {
            for (five[1] = 0; five[1] < five[0]; five[1]++) {
                for (five[2] = 0; five[2] < five[1]; five[2]++) {
                    for (five[3] = 0; five[3] < five[2]; five[3]++) {
                        for (five[4] = 0; five[4] < five[3]; five[4]++) {
                            oneFive(reference, five);
                        }
                    }
                }
            }
        }
    }

    private static void oneFive(Reference reference, int[] five) {
        long cards = 0;
        for (int card : five) {
            cards |= 1L << card;
        }
        int value = reference.valueOfFive(five);
        CHECK.due("value of five", hands().value(cards), value);
        CHECK.due("category of five", hands().category(cards), reference.category(value));
        CHECK.due("best of five", hands().best(cards), cards);
    }

    private static void someOfMore(Reference reference, int count) {
        Random random = new Random(count);
        for (int i = 0; i < 60000; i++) {
            // Cards of few ranks or few suits, so that the rare categories come too.
            long from = i % 3 == 0 ? (1L << 52) - 1 : i % 3 == 1 ? 0xFFFFFL << 4 * (i % 9)
                : 0x3333333333333L;
            long cards = 0;
            while (Long.bitCount(cards) < count) {
                cards |= from & 1L << random.nextInt(52);
            }
            int value = reference.value(cards);
            CHECK.due("value(" + cards + ")", hands().value(cards), value);
            CHECK.due("category(" + cards + ")", hands().category(cards),
                reference.category(value));
            CHECK.due("best(" + cards + ")", hands().best(cards), reference.best(cards));
        }
    }
}
