import java.lang.management.ManagementFactory;

/**
 * What a run of calls makes stays small: all calls of one run share a room of some 600,000 objects
 * and 7.3 million fields and elements. Bytes stand for them here: a field or element has at most 8.
 */
public final class RoomTest {
    private static final Check CHECK = new Check();
    private static final com.sun.management.ThreadMXBean THREADS =
            (com.sun.management.ThreadMXBean) ManagementFactory.getThreadMXBean();

    private static long made() {
        return THREADS.getCurrentThreadAllocatedBytes();
    }

    private static void atMost(String name, long bytes, long most) {
        System.out.println(name + ": " + bytes + " bytes");
        CHECK.due(name + " makes at most " + most + " bytes", bytes <= most, true);
    }

    /** As many frames, attempts and replies on the line as there can be. */
    private static RegisterGateway crowded() {
        RegisterGateway x = new RegisterGateway();
        x.set(1, 1);
        x.set(2, 3);
        x.set(4, 0);
        for (int d = 1; d <= 3; d++) {
            x.setDevice(d, 0, 1000);
            for (int i = 0; i < 6; i++) {
                x.fault(d, 3, 2000);
            }
        }
        for (int i = 0; i < 40; i++) {
            x.read(i % 4, 1 + i % 3, i % 16, 16);
        }
        return x;
    }

    private static void objects() {
        long before = made();
        for (int i = 0; i < 512; i++) {
            new RegisterGateway().time();
        }
        atMost("512 new objects", made() - before, 512 * 8000);
    }

    private static void dearestCalls() {
        RegisterGateway x = crowded();
        x.leastDrain(40);
        long before = made();
        for (int i = 0; i < 300; i++) {
            x.leastDrain(40);
            x.group();
            x.frameByte(3);
            x.fingerprint();
        }
        atMost("300 times leastDrain, group, frameByte and fingerprint", made() - before, 100000);
    }

    private static void wholeLife() {
        long before = made();
        RegisterGateway x = crowded();
        x.leastDrain(40);
        x.finish();
        x.leastDrain(40);
        x.fingerprint();
        for (int i = 0; i < 400; i++) {
            x.feed(i & 255, i % 6);
        }
        atMost("a crowded object's life", made() - before, 400000);
        CHECK.due("all attempts were made", x.count(0), 160);
    }

    public static void main(String[] args) {
        objects();
        dearestCalls();
        wholeLife();
        CHECK.end("RoomTest");
    }
}
