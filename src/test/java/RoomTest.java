import java.lang.management.ManagementFactory;

/** All calls of a run live in one room: a call makes no objects, and a new object is small. */
public final class RoomTest {
    private static final Check CHECK = new Check();
    private static final int ROUNDS = 200;

    public static void main(String[] args) {
        com.sun.management.ThreadMXBean room = (com.sun.management.ThreadMXBean) ManagementFactory.getThreadMXBean();
        long thread = Thread.currentThread().getId();
        EveningPoach x = Check.told("net 0;dog 0;boy 3;squire 1;boy 2;keeper 0 1 2;keeper 3 0 4;");
        allCalls(x);
        long before = room.getThreadAllocatedBytes(thread);
        for (int i = 0; i < ROUNDS; i++) {
            allCalls(x);
        }
        long made = room.getThreadAllocatedBytes(thread) - before;
        CHECK.holds("bytes made by " + ROUNDS + " rounds of calls: " + made, made < 16L * ROUNDS);
        before = room.getThreadAllocatedBytes(thread);
        new EveningPoach();
        made = room.getThreadAllocatedBytes(thread) - before;
        CHECK.holds("bytes of a new object: " + made, made < 12000);
        CHECK.finish("RoomTest");
    }

    private static void allCalls(EveningPoach x) {
        x.keep(0);
        x.sheet(0, 1, 40);
        x.lay(0, 1, 5);
        x.read(0, 1, 0, 20);
        x.nights(9);
        x.see(3, 1, x.glow(1, 3));
        x.runs(60, 1);
        x.ahead(0, 60, 0);
        x.caught(1);
        x.best(0, 60, 0);
        x.ripen(0, 60, 0);
        x.swap(60, 0);
        x.round(0, 60, 0);
        x.post(3, 60, 0);
        x.kind(0, 60, 0);
        x.sharp(0, 0, 60);
        x.luck(3, 0, 8, 0);
        x.mean(3, 8, 0);
        x.kinds(0);
        x.gates(0);
        x.ask(0, 0);
        x.forget(0);
        x.drift(5, 60, 0);
        x.rule(7);
        x.gate(0, 3);
        x.taker(0, 4);
        x.keeper(0, 3);
        x.alter(0, 2, 9);
        x.order(0, 2, 3);
        x.tend(0, 0, 50);
        x.free(0);
        x.hire(1, 1, 1);
        x.dismiss(1);
        x.torn();
        x.count(5);
        x.back(0);
        x.end(0);
        x.feed('@');
        x.text();
        x.fault();
    }
}
