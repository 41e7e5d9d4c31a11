import java.util.Arrays;
import java.util.Map;
import java.util.TreeMap;

/** The document's terms taken by their words: all sets of five are ordered by their worths. */
final class Reference {
    private final long[] keys;
    private final int[] sets;

    Reference() {
        TreeMap<Long, int[]> counts = new TreeMap<>();
        int[] five = new int[5];
        countFrom(0, 0, five, counts);
        keys = new long[counts.size()];
        sets = new int[counts.size()];
        int i = 0;
        for (Map.Entry<Long, int[]> entry : counts.entrySet()) {
            keys[i] = entry.getKey();
            sets[i] = entry.getValue()[0];
            i++;
        }
    }

    int count() {
        return keys.length;
    }

    int sets(int value) {
        return sets[value];
    }

    int category(int value) {
        return (int) (keys[value] >> 20);
    }

    int worth(int value) {
        int worth = category(value);
        for (int place = 0; place < 5; place++) {
            int rankAndOne = (int) (keys[value] >> (16 - 4 * place)) & 15;
            worth += rankAndOne << (4 * (place + 1));
        }
        return worth;
    }

    int first(int category) {
        int value = 0;
        while (value < keys.length && category(value) < category) {
            value++;
        }
        return value;
    }

    int valueOfFive(int[] five) {
        return Arrays.binarySearch(keys, key(five));
    }

    int value(long cards) {
        int greatest = -1;
        for (long five : fives(cards)) {
            greatest = Math.max(greatest, valueOfFive(list(five)));
        }
        return greatest;
    }

    long best(long cards) {
        int greatest = value(cards);
        long best = 0;
        for (long five : fives(cards)) {
            if (valueOfFive(list(five)) == greatest) {
                best = Math.max(best, five);
            }
        }
        return best;
    }

    /** Greater keys are better: the category, then the ranks of the row, and one more each. */
    static long key(int[] five) {
        int[] times = new int[13];
        boolean oneSuit = true;
        for (int card : five) {
            times[card / 4]++;
            oneSuit &= card % 4 == five[0] % 4;
        }
        int straight = highestOfStraight(times);
        int category = category(times, straight >= 0, oneSuit);
        long row = 0;
        int places = 0;
        if (straight >= 0) {
            row = straight + 1;
            places = 1;
        } else {
            for (int often = 4; often >= 1; often--) {
                for (int rank = 12; rank >= 0; rank--) {
                    if (times[rank] == often) {
                        row = row * 16 + rank + 1;
                        places++;
                    }
                }
            }
        }
        return ((long) category << 20) + (row << (4 * (5 - places)));
    }

    private static int highestOfStraight(int[] times) {
        for (int highest = 12; highest >= 3; highest--) {
            boolean all = true;
            for (int back = 0; back < 5; back++) {
                all &= times[(highest - back + 13) % 13] == 1;
            }
            if (all) {
                return highest;
            }
        }
        return -1;
    }

    private static int category(int[] times, boolean straight, boolean oneSuit) {
        int[] ofCount = new int[5];
        for (int count : times) {
            ofCount[count]++;
        }
        if (straight && oneSuit) {
            return 8;
        }
        if (ofCount[4] == 1) {
            return 7;
        }
        if (ofCount[3] == 1 && ofCount[2] == 1) {
            return 6;
        }
        if (oneSuit) {
            return 5;
        }
        if (straight) {
            return 4;
        }
        if (ofCount[3] == 1) {
            return 3;
        }
        return ofCount[2];
    }

    private static void countFrom(int from, int have, int[] five, TreeMap<Long, int[]> counts) {
        if (have == 5) {
            counts.computeIfAbsent(key(five), k -> new int[1])[0]++;
            return;
        }
        for (int card = from; card < 52; card++) {
            five[have] = card;
            countFrom(card + 1, have + 1, five, counts);
        }
    }

    static long[] fives(long cards) {
        int[] all = list(cards);
        long[] fives = new long[21];
        int count = 0;
        for (int subset = 0; subset < 1 << all.length; subset++) {
            if (Integer.bitCount(subset) == 5) {
                long five = 0;
                for (int i = 0; i < all.length; i++) {
                    if ((subset >> i & 1) == 1) {
                        five |= 1L << all[i];
                    }
                }
                fives[count] = five;
                count++;
            }
        }
        return Arrays.copyOf(fives, count);
    }

    static int[] list(long cards) {
        int[] list = new int[Long.bitCount(cards)];
        int count = 0;
        for (int card = 0; card < 52; card++) {
            if ((cards >> card & 1) == 1) {
                list[count] = card;
                count++;
            }
        }
        return list;
    }
}
