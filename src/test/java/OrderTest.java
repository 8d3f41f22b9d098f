import java.util.Arrays;
import java.util.Random;

/**
 * What joining must not change: the order of requests that meet at a register. The class is held against
 * rows of registers on which each request is carried out alone, in the order of the numbers.
 */
public final class OrderTest {
    private static final Check CHECK = new Check();
    private static final int RUNS = 3000;
    /** No request goes beyond these registers; all 32 would take too many of an object's 512 calls. */
    private static final int USED = 16;

    /** One run of requests that no device refuses; replies can be lost or damaged, but retries make up for it. */
    private static final class Run {
        final Random random;
        final RegisterGateway x = new RegisterGateway();
        final int[][] alone = new int[4][USED];
        final int[][] due = new int[40][];
        final int registers;
        final int seed;
        int made = 0;

        Run(int seed) {
            this.seed = seed;
            random = new Random(seed);
            registers = 2 + random.nextInt(12);
            x.set(0, random.nextInt(3) * 40);
            x.set(2, 3);
            for (int device = 1; device <= 3; device++) {
                for (int r = 0; r < USED; r++) {
                    alone[device][r] = random.nextInt(65536);
                    x.poke(device, r, alone[device][r]);
                }
            }
        }

        void ask() {
            int device = random.nextInt(4) == 0 ? 1 + random.nextInt(3) : 2;
            int start = random.nextInt(registers);
            if (random.nextInt(3) > 0) {
                alone[device][start] = made;
                x.write(random.nextInt(4), device, start, made);
            } else {
                int count = 1 + random.nextInt(3);
                due[made] = Arrays.copyOfRange(alone[device], start, start + count);
                x.read(random.nextInt(4), device, start, count);
            }
            made++;
        }

        /** Two faults at most for the frame that comes next: it has four attempts. */
        void disturb() {
            int device = x.frameByte(0);
            for (int i = random.nextInt(3); i > 0 && device > 0; i--) {
                x.fault(device, 1 + random.nextInt(2), random.nextInt(2001));
            }
        }

        void play() {
            while (made < 40) {
                for (int i = random.nextInt(12); i >= 0 && made < 40; i--) {
                    ask();
                }
                for (int i = random.nextInt(4); i > 0; i--) {
                    disturb();
                    x.step();
                }
            }
            x.finish();
            CHECK.due("run " + seed + ": all are done", x.requests(1), 40);
            for (int i = 0; i < 40; i++) {
                for (int k = 0; due[i] != null && k < due[i].length; k++) {
                    CHECK.due("run " + seed + ": value(" + i + ", " + k + ")", x.value(i, k), due[i][k]);
                }
            }
            for (int device = 1; device <= 3; device++) {
                for (int r = 0; r < USED; r++) {
                    CHECK.due("run " + seed + ": peek(" + device + ", " + r + ")", x.peek(device, r), alone[device][r]);
                }
            }
        }
    }

    /**
     * What it is: "requests of clients are queued, answered from a cache, joined into frames without a
     * change of their order, sent with checksums, repeated after timeouts".
     */
    private static void asIfEachWereAlone() {
        int joined = 0;
        int cached = 0;
        int repeated = 0;
        for (int seed = 0; seed < RUNS && CHECK.wrong() == 0; seed++) {
            Run run = new Run(seed);
            run.play();
            cached += run.x.count(4);
            joined += run.x.count(5);
            repeated += run.x.count(3);
        }
        CHECK.due("many were joined", joined > 10 * RUNS, true);
        CHECK.due("many were answered from the cache", cached > RUNS, true);
        CHECK.due("many were repeated", repeated > RUNS, true);
    }

    private static void ask(RegisterGateway x, boolean isWrite, int register) {
        if (isWrite) {
            x.write(0, 1, register, 1);
        } else {
            x.read(0, 1, register, 1);
        }
    }

    /**
     * Description, A step of the gateway: "no waiting request for this device that has a smaller number,
     * is not in the group, and has a range that overlaps its own, is a write (or, if the request that would
     * join is a write, a read)". Request 1 is not beside the group when it is looked at, request 2 brings
     * the group to it, and request 3 would overtake it. Of the four pairs of kinds only two reads may
     * change places.
     */
    private static void whichPairsKeepTheirOrder() {
        for (int pair = 0; pair < 4; pair++) {
            boolean earlierWrites = (pair & 1) == 1;
            boolean laterWrites = (pair & 2) == 2;
            RegisterGateway x = new RegisterGateway();
            ask(x, laterWrites, 5);
            ask(x, earlierWrites, 7);
            ask(x, laterWrites, 6);
            ask(x, laterWrites, 7);
            String name = (laterWrites ? "a write" : "a read") + " behind " + (earlierWrites ? "a write" : "a read");
            CHECK.due(name, x.group(), earlierWrites || laterWrites ? 0b0101 : 0b1101);
        }
    }

    /**
     * What it is: "joined into frames without a change of their order". The second write to register 7
     * is not sent with the first frame, else the first one would be written over it.
     */
    private static void laterWriteStaysLater() {
        RegisterGateway x = new RegisterGateway();
        x.write(0, 1, 5, 1);
        x.write(0, 1, 7, 2);
        x.write(0, 1, 6, 3);
        x.write(0, 1, 7, 4);
        CHECK.due("two are sent", x.step(), 2);
        CHECK.due("none of register 7", x.peek(1, 7), 0);
        CHECK.due("the other two are sent", x.step(), 2);
        CHECK.due("the later value", x.peek(1, 7), 4);
        CHECK.due("it is cached, too", x.cached(1, 7), 4);
    }

    public static void main(String[] args) {
        CHECK.runAll(OrderTest.class);
    }
}
