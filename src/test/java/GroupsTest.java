/** Promises 18 and 19, and which requests a step joins: groups and the frames for them. */
public final class GroupsTest {
    private static final Check CHECK = new Check();

    private static long bits(int... numbers) {
        long bits = 0;
        for (int n : numbers) {
            bits |= 1L << n;
        }
        return bits;
    }

    /** The bytes before the checksum; the checksum is PlainModel's. */
    private static void frame(String name, RegisterGateway x, int... content) {
        int[] data = java.util.Arrays.copyOfRange(content, 2, content.length);
        java.util.List<Integer> due = PlainModel.frame(content[0], content[1], data);
        for (int k = 0; k < due.size(); k++) {
            CHECK.due(name + " frameByte " + k, x.frameByte(k), due.get(k));
        }
        CHECK.due(name + " behind the frame", x.frameByte(due.size()), -1);
        CHECK.due(name + " far behind", x.frameByte(Integer.MAX_VALUE), -1);
    }

    private static void readsJoin() {
        RegisterGateway x = new RegisterGateway();
        x.read(0, 1, 10, 2);
        x.read(1, 1, 12, 1);
        x.read(2, 1, 8, 2);
        x.read(3, 1, 9, 3);
        x.read(0, 1, 14, 1);
        x.read(0, 2, 10, 2);
        CHECK.due("overlapping and beside", x.group(), bits(0, 1, 2, 3));
        frame("reads", x, 1, 3, 0, 8, 0, 5);
        for (int r = 0; r < 32; r++) {
            x.poke(1, r, 1000 * r);
        }
        CHECK.due("joined step", x.step(), 4);
        for (int i = 0; i < 4; i++) {
            for (int k = 0; k < x.request(i, 3); k++) {
                CHECK.due("each gets its own values", x.value(i, k), 1000 * (x.request(i, 2) + k));
            }
            CHECK.due("all at one time", x.request(i, 7), 12 + 5 + 15);
        }
        CHECK.due("besides the first", x.count(5), 3);
        CHECK.due("one frame", x.count(0), 1);
        CHECK.due("next group", x.group(), bits(4));
        x.set(4, 0);
        x.read(0, 1, 15, 1);
        CHECK.due("joining off", x.group(), bits(4));
        x.set(4, 1);
        CHECK.due("joining on", x.group(), bits(4, 6));
    }

    private static void readSizes() {
        RegisterGateway x = new RegisterGateway();
        x.read(0, 1, 4, 8);
        x.read(0, 1, 12, 9);
        x.read(0, 1, 12, 8);
        x.read(0, 1, 3, 1);
        x.read(0, 1, 20, 1);
        x.read(0, 1, 4, 16);
        CHECK.due("at most 16 registers", x.group(), bits(0, 2, 5));
        frame("16 registers", x, 1, 3, 0, 4, 0, 16);
    }

    private static void lookedAtOnce() {
        RegisterGateway x = new RegisterGateway();
        x.read(0, 1, 0, 1);
        x.read(0, 1, 2, 1);
        x.read(0, 1, 1, 1);
        x.read(0, 1, 2, 1);
        CHECK.due("each is looked at once; an earlier read does not bar a read", x.group(), bits(0, 2, 3));
        RegisterGateway y = new RegisterGateway();
        y.write(0, 1, 0, 1);
        y.write(0, 1, 2, 2);
        y.write(0, 1, 1, 3);
        y.write(0, 1, 2, 4);
        CHECK.due("an earlier write bars a write", y.group(), bits(0, 2));
        frame("two writes", y, 1, 16, 0, 0, 0, 2, 4, 0, 1, 0, 3);
        y.finish();
        CHECK.due("the order of writes stays", y.peek(1, 2), 4);
    }

    private static void writesJoin() {
        RegisterGateway x = new RegisterGateway();
        x.write(0, 2, 5, 258);
        frame("one write", x, 2, 6, 0, 5, 1, 2);
        x.write(1, 2, 5, 65535);
        CHECK.due("same register", x.group(), bits(0, 1));
        frame("the latest value", x, 2, 6, 0, 5, 255, 255);
        x.write(1, 2, 4, 7);
        x.write(1, 2, 5, 300);
        frame("write many", x, 2, 16, 0, 4, 0, 2, 4, 0, 7, 1, 44);
        CHECK.due("write step", x.step(), 4);
        CHECK.due("written 4", x.peek(2, 4), 7);
        CHECK.due("written 5", x.peek(2, 5), 300);
        CHECK.due("write many's time", x.time(), 4 + 13 + 5 + 8);
        RegisterGateway y = new RegisterGateway();
        for (int r = 0; r < 9; r++) {
            y.write(0, 1, 300 + r, r);
        }
        y.write(0, 1, 307, 99);
        CHECK.due("at most 8 registers", y.group(), bits(0, 1, 2, 3, 4, 5, 6, 7, 9));
        frame("8 writes", y, 1, 16, 1, 44, 0, 8, 16, 0, 0, 0, 1, 0, 2, 0, 3, 0, 4, 0, 5, 0, 6, 0, 99);
        CHECK.due("frameByte last", y.frameByte(24) >= 0, true);
    }

    private static void barredByOtherKind() {
        RegisterGateway x = new RegisterGateway();
        x.read(0, 1, 0, 2);
        x.write(0, 1, 2, 9);
        x.read(0, 1, 2, 1);
        x.read(0, 1, 2, 2);
        x.read(0, 1, 1, 1);
        x.write(0, 2, 2, 5);
        CHECK.due("an earlier write bars reads of its register alone", x.group(), bits(0, 4));
        x.step();
        CHECK.due("then the write", x.group(), bits(1));
        x.step();
        CHECK.due("then its register is fresh in the cache", x.group(), bits(2));
        RegisterGateway y = new RegisterGateway();
        y.write(0, 1, 2, 9);
        y.read(0, 1, 3, 2);
        y.write(0, 1, 3, 1);
        y.write(0, 1, 1, 1);
        y.write(0, 1, 2, 8);
        CHECK.due("an earlier read bars writes of its registers alone", y.group(), bits(0, 3, 4));
        RegisterGateway z = new RegisterGateway();
        z.read(0, 1, 0, 2);
        z.write(0, 2, 2, 9);
        z.write(0, 1, 3, 9);
        z.read(0, 1, 2, 1);
        CHECK.due("other devices and other registers bar nothing", z.group(), bits(0, 3));
    }

    private static void endedOnesBarNothing() {
        RegisterGateway x = new RegisterGateway();
        x.set(4, 0);
        x.write(0, 1, 1, 1);
        x.step();
        x.set(4, 1);
        x.clearCache();
        x.read(0, 1, 0, 1);
        x.read(0, 1, 1, 1);
        CHECK.due("ended ones bar nothing", x.group(), bits(1, 2));
    }

    private static void answeredFromCache() {
        RegisterGateway x = new RegisterGateway();
        x.read(0, 1, 0, 4);
        x.step();
        x.read(0, 1, 1, 2);
        x.read(0, 1, 4, 1);
        x.read(0, 1, 3, 1);
        CHECK.due("one from the cache", x.group(), bits(1));
        CHECK.due("no frame", x.frameByte(0), -1);
        CHECK.due("step from the cache", x.step(), 1);
        CHECK.due("no time passes", x.time(), 12 + 5 + 13);
        CHECK.due("a cached one may join", x.group(), bits(2, 3));
        CHECK.due("step", x.step(), 2);
        CHECK.due("joined one is not from the cache", x.request(3, 8), 0);
        CHECK.due("from the cache", x.count(4), 1);
    }

    private static void looking() {
        RegisterGateway x = new RegisterGateway();
        CHECK.due("no frame", x.frameByte(0), -1);
        CHECK.outOfBounds("frameByte -1", x, () -> x.frameByte(-1));
        CHECK.outOfBounds("frameByte least", x, () -> x.frameByte(Integer.MIN_VALUE));
        x.read(0, 3, 1000, 16);
        long before = x.fingerprint();
        frame("a far read", x, 3, 3, 3, 232, 0, 16);
        CHECK.due("group", x.group(), 1);
        CHECK.due("looking changes nothing", x.fingerprint(), before);
        for (int i = 1; i < 40; i++) {
            x.read(0, 3, 1000, 1);
        }
        CHECK.due("forty in a group", x.group(), (1L << 40) - 1);
        CHECK.due("forty in a step", x.step(), 40);
        CHECK.due("forty failed", x.requests(2), 40);
    }

    public static void main(String[] args) {
        readsJoin();
        readSizes();
        lookedAtOnce();
        writesJoin();
        barredByOtherKind();
        endedOnesBarNothing();
        answeredFromCache();
        looking();
        CHECK.end("GroupsTest");
    }
}
