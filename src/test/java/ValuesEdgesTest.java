import java.util.function.LongUnaryOperator;

/** The edges of promises 2 to 7 and of their terms; the document's words stand above each. */
public final class ValuesEdgesTest {
    private static final Check CHECK = new Check("ValuesEdgesTest");
    private static final Class<IllegalArgumentException> WRONG = IllegalArgumentException.class;
    private static final long ALL_CARDS = (1L << 52) - 1;

    public static void main(String[] args) {
        lessThanFive();
        fiveToSeven();
        moreThanSeven();
        otherBits();
        endsOfCategories();
        endsOfStraights();
        noStraightGoesRound();
        greatestCategoryThatHolds();
        rowsThatDifferLate();
        sameRow();
        greatestOfSixAndSeven();
        greatestAsANumber();
        valueIsNone();
        setsOfAllValues();
        categoryIsNone();
        lastCallOfAnObject();
        CHECK.finish();
    }

    /** A new object for each hand, as one is made for 512 calls only. */
    private static HandTables hands() {
        return new HandTables();
    }

    private static void refused(long cards) {
        CHECK.thrown("value(" + cards + ")", WRONG, () -> hands().value(cards));
        CHECK.thrown("category(" + cards + ")", WRONG, () -> hands().category(cards));
        CHECK.thrown("best(" + cards + ")", WRONG, () -> hands().best(cards));
    }

    private static void hand(String names, int category, int value, String best) {
        long cards = Cards.set(names);
        CHECK.due("value of " + names, hands().value(cards), value);
        CHECK.due("category of " + names, hands().category(cards), category);
        CHECK.due("best of " + names, hands().best(cards), Cards.set(best));
    }

    private static void five(String names, int category, int value) {
        hand(names, category, value, names);
    }

    private static int value(String names) {
        return hands().value(Cards.set(names));
    }

    private static long lowest(int count) {
        return (1L << count) - 1;
    }

    private static long greatest(int count) {
        return lowest(count) << (52 - count);
    }

    /** "IllegalArgumentException: they are less" than five. */
    private static void lessThanFive() {
        for (int count = 0; count <= 4; count++) {
            refused(lowest(count));
            refused(greatest(count));
        }
        refused(Cards.set("2c As"));
        refused(Cards.set("2c 7d 9h As"));
    }

    /** "The value of five to seven cards", the least and the greatest of the 52 among them. */
    private static void fiveToSeven() {
        hand("2c 2d 2h 2s 3c", 7, 7296, "2c 2d 2h 2s 3c");
        hand("2c 2d 2h 2s 3c 3d", 7, 7296, "2c 2d 2h 2s 3d");
        hand("2c 2d 2h 2s 3c 3d 3h", 7, 7296, "2c 2d 2h 2s 3h");
        hand("Ks Ac Ad Ah As", 7, 7451, "Ks Ac Ad Ah As");
        hand("Kh Ks Ac Ad Ah As", 7, 7451, "Ks Ac Ad Ah As");
        hand("Kd Kh Ks Ac Ad Ah As", 7, 7451, "Ks Ac Ad Ah As");
    }

    /** "IllegalArgumentException: they are .. more" than seven. */
    private static void moreThanSeven() {
        for (int count = 8; count <= 52; count++) {
            refused(lowest(count));
            refused(greatest(count));
        }
        refused(Cards.set("2c 4d 6h 8s Tc Qd Kh As"));
    }

    /** "IllegalArgumentException: .. or other bits are there"; cards are the bits 0 .. 51. */
    private static void otherBits() {
        for (int bit = 52; bit < 64; bit++) {
            refused(1L << bit);
            for (int count = 4; count <= 7; count++) {
                refused(lowest(count) | 1L << bit);
                refused(greatest(count) | 1L << bit);
            }
        }
        for (int count = 5; count <= 7; count++) {
            refused(lowest(count) << 52);
            refused(lowest(count) << (64 - count));
            refused(lowest(count) << 50);
        }
        refused(ALL_CARDS);
        refused(~ALL_CARDS);
        refused(~ALL_CARDS | lowest(5));
        refused(-1L);
        refused(Long.MAX_VALUE);
        refused(Long.MIN_VALUE);
    }

    private static void ends(int category, String least, int first, int worthOfFirst,
            String greatest, int last, int worthOfLast, int sets) {
        five(least, category, first);
        five(greatest, category, last);
        CHECK.due("first(" + category + ")", hands().first(category), first);
        CHECK.due("first(" + (category + 1) + ")", hands().first(category + 1), last + 1);
        CHECK.due("worth(" + first + ")", hands().worth(first), worthOfFirst);
        CHECK.due("worth(" + last + ")", hands().worth(last), worthOfLast);
        CHECK.due("sets(" + first + ")", hands().sets(first), sets);
        CHECK.due("sets(" + last + ")", hands().sets(last), sets);
    }

    /** "The least value of a category; 7462 for 9"; values are "0 .. 7461". */
    private static void endsOfCategories() {
        ends(0, "7c 5d 4h 3s 2c", 0, 1193056, "Ac Kd Qh Js 9c", 1276, 9092304, 1020);
        ends(1, "2c 2d 5h 4s 3c", 1277, 144401, "Ac Ad Kh Qs Jc", 4136, 703697, 384);
        ends(2, "3c 3d 2h 2s 4c", 4137, 12578, "Ac Ad Kh Ks Qc", 4994, 48338, 144);
        ends(3, "2c 2d 2h 4s 3c", 4995, 8979, "Ac Ad Ah Ks Qc", 5852, 48339, 64);
        ends(4, "Ac 2d 3h 4s 5c", 5853, 68, "Ac Kd Qh Js Tc", 5862, 212, 1020);
        ends(5, "7c 5c 4c 3c 2c", 5863, 1193061, "Ac Kc Qc Jc 9c", 7139, 9092309, 4);
        ends(6, "2c 2d 2h 3s 3c", 7140, 534, "Ac Ad Ah Ks Kc", 7295, 3286, 24);
        ends(7, "2c 2d 2h 2s 3c", 7296, 535, "Ac Ad Ah As Kc", 7451, 3287, 4);
        ends(8, "As 2s 3s 4s 5s", 7452, 72, "As Ks Qs Js Ts", 7461, 216, 4);
        CHECK.due("first(9)", hands().first(9), 7462);
    }

    /**
     * "Five ranks that follow one another, or 12, 0, 1, 2, 3"; "its highest one alone (3, when 12
     * is its lowest)".
     */
    private static void endsOfStraights() {
        String ranks = "A23456789TJQKA";
        String mixed = "cdhsc";
        for (int low = 0; low < 10; low++) {
            StringBuilder any = new StringBuilder();
            StringBuilder suited = new StringBuilder();
            for (int i = 0; i < 5; i++) {
                any.append(i == 0 ? "" : " ").append(ranks.charAt(low + i)).append(mixed.charAt(i));
                suited.append(i == 0 ? "" : " ").append(ranks.charAt(low + i)).append('h');
            }
            five(any.toString(), 4, 5853 + low);
            five(suited.toString(), 8, 7452 + low);
            CHECK.due("worth of a straight", hands().worth(5853 + low), 4 + 16 * (3 + low + 1));
            CHECK.due("worth of a suited one", hands().worth(7452 + low), 8 + 16 * (3 + low + 1));
        }
        hand("Ac 2d 3h 4s 5c 6d", 4, 5854, "2d 3h 4s 5c 6d");
        hand("Ac 2d 3h 4s 5c 6d 7h", 4, 5855, "3h 4s 5c 6d 7h");
        hand("Ac 2d 3h 4s 5c Kd Qh", 4, 5853, "Ac 2d 3h 4s 5c");
        hand("As 2s 3s 4s 5s 6d 7h", 8, 7452, "As 2s 3s 4s 5s");
        hand("9c Td Jh Qs Kc Ad 2h", 4, 5862, "Td Jh Qs Kc Ad");
    }

    /** A straight is nothing but what the document lists: none goes round behind the ace. */
    private static void noStraightGoesRound() {
        five("Kc Ad 2h 3s 4c", 0, value("Kd Ac 2s 3h 4d"));
        CHECK.due("worth of A K 4 3 2", hands().worth(value("Kc Ad 2h 3s 4c")), 13 * 16 + 12 * 256
            + 3 * 4096 + 2 * 65536 + 1048576);
        five("Qc Kd Ah 2s 3c", 0, 1233);
        five("Jc Qd Kh As 2c", 0, value("Jd Qh Ks Ac 2d"));
        five("Ks As 2s 3s 4s", 5, 5863 + value("Kc Ad 2h 3s 4c"));
        five("Qs Ks As 2s 3s", 5, 5863 + 1233);
        five("Js Qs Ks As 2s", 5, 5863 + value("Jc Qd Kh As 2c"));
        CHECK.due("category of 2 3 4 Q K A", hands().category(Cards.set("2c 3d 4h Qs Kc Ad")), 0);
        CHECK.due("category of J Q K A 2 3 4",
            hands().category(Cards.set("Jc Qd Kh As 2c 3d 4h")), 0);
        // Four that follow one another are too few, as are five with a gap.
        CHECK.due("category of 2 3 4 5 7", hands().category(Cards.set("2c 3d 4h 5s 7c")), 0);
        CHECK.due("category of A 2 3 4 6", hands().category(Cards.set("Ac 2d 3h 4s 6c")), 0);
        CHECK.due("category of 9 J Q K A", hands().category(Cards.set("9c Jd Qh Ks Ac")), 0);
    }

    /** "A CATEGORY, the greatest of these that holds". */
    private static void greatestCategoryThatHolds() {
        // Suited and a straight, but not the same five.
        hand("2s 3s 4s 5s 6d 9s", 5, 5881, "2s 3s 4s 5s 9s");
        hand("2s 3s 4s 5s 6d 7d 9s", 5, 5881, "2s 3s 4s 5s 9s");
        // Four of one suit are too few.
        hand("2s 3s 4s 5s 7d 9d Jd", 0, value("4s 5s 7d 9d Jd"), "4s 5s 7d 9d Jd");
        hand("2s 4s 6s 8s 8d 8h", 3, value("4c 6s 8s 8d 8h"), "4s 6s 8s 8d 8h");
        // Suited goes before a straight and before three, below three and two and below four.
        hand("2s 4s 6s 8s Ts Td Th", 5, value("2s 4s 6s 8s Ts"), "2s 4s 6s 8s Ts");
        hand("2s 3s 4s 5s 7s 6d", 5, value("2s 3s 4s 5s 7s"), "2s 3s 4s 5s 7s");
        // Two threes are three and two, and so are three and two twos.
        hand("9c 9d 9h 4s 4c 4d", 6, 7226, "9c 9d 9h 4s 4d");
        hand("9c 9d 9h 4s 4c 3d 3h", 6, 7226, "9c 9d 9h 4s 4c");
        hand("4c 4d 4h 9s 9c Ad", 6, value("4c 4d 4h 9s 9c"), "4c 4d 4h 9s 9c");
        // Four and three are four; four and two, too.
        hand("9c 9d 9h 9s 4c 4d 4h", 7, value("9c 9d 9h 9s 4c"), "9c 9d 9h 9s 4h");
        hand("2c 2d 2h 2s Ac Ad Ah", 7, value("2c 2d 2h 2s Ac"), "2c 2d 2h 2s Ah");
        // Three twos are two of them and the highest of the others.
        hand("9c 9d 7h 7s 4c 4d 2c", 2, value("9c 9d 7h 7s 4c"), "9c 9d 7h 7s 4d");
        hand("9c 9d 7h 7s 4c 4d Ac", 2, value("9c 9d 7h 7s Ac"), "9c 9d 7h 7s Ac");
        // A straight goes before three and before twos.
        hand("2c 3d 4h 5s 6c 6d 6h", 4, 5854, "2c 3d 4h 5s 6h");
        hand("2c 3d 4h 5s 5c 6c 6d", 4, 5854, "2c 3d 4h 5s 6d");
        // Two of one suit's straights: the higher one.
        hand("2s 3s 4s 5s 6s 7s 8s", 8, 7455, "4s 5s 6s 7s 8s");
    }

    private static void greater(String better, String worse) {
        CHECK.due(better + " is one better than " + worse, value(better) - value(worse), 1);
    }

    /** "The greater rank at the first place where their rows differ", be it the last place. */
    private static void rowsThatDifferLate() {
        greater("Ac Kd Qh Js 9c", "Ad Kh Qs Jc 8d");
        greater("7c 6d 4h 3s 2c", "7c 5d 4h 3s 2c");
        greater("Ac Ad Kh Qs Jc", "Ac Ad Kh Qs Tc");
        greater("2c 2d 6h 4s 3c", "2c 2d 5h 4s 3c");
        greater("Ac Ad Kh Ks Qc", "Ac Ad Kh Ks Jc");
        greater("4c 4d 2h 2s 3c", "3c 3d 2h 2s Ac");
        greater("3c 3d 3h 4s 2c", "2c 2d 2h As Kc");
        greater("3c 3d 3h 2s 2c", "2c 2d 2h As Ac");
        greater("3c 3d 3h 3s 2c", "2c 2d 2h 2s Ac");
        greater("8s 5s 4s 3s 2s", "7s 6s 5s 4s 2s");
    }

    /** "With the same row they are worth the same", whatever their suits. */
    private static void sameRow() {
        CHECK.due("other suits", value("Ac Kd Qh Js 9c"), value("As Kh Qd Jc 9d"));
        CHECK.due("another suit of all", value("Ac Kc Qc Jc 9c"), value("Ah Kh Qh Jh 9h"));
        CHECK.due("other suits of a straight", value("Ac 2d 3h 4s 5c"), value("Ad 2d 3d 4d 5s"));
        CHECK.due("other pairs", value("8c 8d 7h 7s 2c"), value("8h 8s 7c 7d 2s"));
    }

    /** "The value of six or seven is the greatest of any five of them." */
    private static void greatestOfSixAndSeven() {
        hand("2c 3d 4h 5s 7c 8d", 0, 12, "3d 4h 5s 7c 8d");
        hand("2c 3d 4h 5s 7c 8d 9h", 0, 48, "4h 5s 7c 8d 9h");
        hand("2s 7s Ts Js Qs Ks As", 8, 7461, "Ts Js Qs Ks As");
        hand("2c 2d Ts Js Qs Ks As", 8, 7461, "Ts Js Qs Ks As");
        hand("2s 4s 6s 8s Ts Qs", 5, value("4s 6s 8s Ts Qs"), "4s 6s 8s Ts Qs");
        hand("2s 4s 6s 8s Ts Qs As", 5, value("6s 8s Ts Qs As"), "6s 8s Ts Qs As");
    }

    /** "Of those that are worth the same the greatest as a number." */
    private static void greatestAsANumber() {
        hand("2c 2d 3c 4d 5h 6s", 4, 5854, "2d 3c 4d 5h 6s");
        hand("2c 2d 2h 3c 4d 5h 6s", 4, 5854, "2h 3c 4d 5h 6s");
        hand("Ac Ad 2c 3d 4h 5s 9c", 4, 5853, "Ad 2c 3d 4h 5s");
        hand("Ac Ad 2c 2d 3d 4h 5s", 4, 5853, "Ad 2d 3d 4h 5s");
        hand("Tc Jd Qh Ks Ac Ad As", 4, 5862, "Tc Jd Qh Ks As");
        hand("9c 9d 9h 4s 4c 4d 2c", 6, 7226, "9c 9d 9h 4s 4d");
        hand("Ac Ad Kh Ks Qc Qd Qs", 6, value("Qc Qd Qs Ah As"), "Qc Qd Qs Ac Ad");
    }

    private static void eachRefused(String name, int[] wrong, LongUnaryOperator call) {
        for (int one : wrong) {
            CHECK.thrown(name + "(" + one + ")", WRONG, () -> call.applyAsLong(one));
        }
    }

    /** "IllegalArgumentException: value is not 0 to 7461." */
    private static void valueIsNone() {
        eachRefused("worth", Wrong.VALUES, value -> hands().worth((int) value));
        eachRefused("sets", Wrong.VALUES, value -> hands().sets((int) value));
    }

    /** "How many sets of five cards have a value": each of the 2598960 has one. */
    private static void setsOfAllValues() {
        int sum = 0;
        for (int value = 0; value <= 7461; value++) {
            sum += hands().sets(value);
        }
        CHECK.due("sets of all values", sum, 2598960);
    }

    /** "IllegalArgumentException: category is not 0 to 9." */
    private static void categoryIsNone() {
        eachRefused("first", Wrong.CATEGORIES, category -> hands().first((int) category));
    }

    /** "An object is used for at most 512 calls": the last of them is answered as the first. */
    private static void lastCallOfAnObject() {
        HandTables hands = hands();
        hands.shuffle(1);
        for (int call = 2; call <= 510; call++) {
            CHECK.due("call " + call, hands.draw(), call <= 53 ? Decks.OF_1[call - 2] : -1);
        }
        CHECK.due("call 511", hands.seat(5, 50, 51), true);
        CHECK.due("call 512", hands.cards(5), 3L << 50);
    }
}
