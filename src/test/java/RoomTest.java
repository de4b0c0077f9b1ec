import java.lang.management.ManagementFactory;

/** Calls make no objects: all that an object needs is made with it, and is small. */
public final class RoomTest {
    private static final long MOST_BYTES_OF_ONE = 16_000L;

    public static void main(String[] args) {
        com.sun.management.ThreadMXBean room =
            (com.sun.management.ThreadMXBean) ManagementFactory.getThreadMXBean();
        long self = Thread.currentThread().getId();
        GateNames warm = new GateNames();
        calls(warm);
        room.getThreadAllocatedBytes(self);

        long start = room.getThreadAllocatedBytes(self);
        GateNames x = new GateNames();
        long made = room.getThreadAllocatedBytes(self) - start;

        start = room.getThreadAllocatedBytes(self);
        for (int k = 0; k < 20; k++) {
            calls(x);
        }
        long byCalls = room.getThreadAllocatedBytes(self) - start;

        System.out.println("an object takes " + made + " bytes, its calls " + byCalls);
        System.exit(made <= MOST_BYTES_OF_ONE && byCalls <= 1000L ? 0 : 1);
    }

    private static void calls(GateNames x) {
        x.text(0, 21);
        for (int i = 0; i < 7; i++) {
            x.put(0, 3 * i, i % 2 == 0 ? 105 : 103);
            x.put(0, 3 * i + 1, 48 + i);
            x.put(0, 3 * i + 2, 57);
        }
        x.gate(0);
        x.row(0, 0);
        x.row(1, 40);
        x.lay(1, 0, 1);
        x.copy(1, 0, 1, 1, 39);
        x.mean(1);
        x.tear(1);
        x.meet(0, 1);
        x.card(0);
        x.reads(2);
        x.keep(0);
        x.lots(20, 5);
        x.undo(9);
        x.on(0);
        for (int r = 0; r < 6; r++) {
            x.most(r);
            x.goer(r, 4);
            x.mark(r, 4);
            x.tells(r, 5);
            x.kinds(r, 0);
            x.test(r, 0);
        }
        x.open();
        x.worth();
        x.orders();
        x.meetings();
        x.stone();
        x.hold();
        x.last(3);
        x.duel();
        x.odds(5);
        x.mid(5);
        x.digest();
        x.count(6);
    }
}
