import java.lang.management.ManagementFactory;

/** All calls of a run share one room: so the dearest calls must take none of it. */
public final class RoomTest {
    private static final Check CHECK = new Check("RoomTest");
    /** Far below what an object a call would take. */
    private static final long FEW_BYTES = 4096;

    public static void main(String[] args) {
        HandTables table = new HandTables();
        for (int seat = 0; seat < 6; seat++) {
            table.seat(seat, seat, 51 - seat);
        }
        table.board(20);
        table.board(25);
        table.board(30);
        useAll(table);
        long before = bytes();
        for (int round = 0; round < 54; round++) {
            useAll(table);
        }
        long made = bytes() - before;
        CHECK.due("486 calls made " + made + " bytes, which is few:", made <= FEW_BYTES, true);
        CHECK.finish();
    }

    private static void useAll(HandTables table) {
        table.wins(5, 1);
        table.outs(2);
        table.ahead();
        table.best(table.cards(0) | table.cards(1) | table.cards(6));
        table.worth(4500);
        table.shuffle(3);
    }

    private static long bytes() {
        return ((com.sun.management.ThreadMXBean) ManagementFactory.getThreadMXBean())
            .getThreadAllocatedBytes(Thread.currentThread().getId());
    }
}
