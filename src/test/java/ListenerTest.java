/** Promises 25 to 29: the listener. */
public final class ListenerTest {
    private static final Check CHECK = new Check();

    private static void bytes(RegisterGateway x, int many, int gap) {
        for (int i = 0; i < many; i++) {
            x.feed(i & 255, i == 0 ? 0 : gap);
        }
    }

    /** A frame of this many bytes with a right checksum. */
    private static void rightFrame(RegisterGateway x, int many) {
        bytes(x, many - 2, 1);
        int sum = x.checksum();
        x.feed(sum & 255, 0);
        x.feed(sum >> 8, 1);
    }

    private static void latest(String name, RegisterGateway x, int verdict, int length) {
        CHECK.due(name + " verdict", x.verdict(0), verdict);
        CHECK.due(name + " length", x.length(0), length);
    }

    private static void checksums() {
        RegisterGateway x = new RegisterGateway();
        CHECK.due("no bytes", x.checksum(), 65535);
        for (char c : "123456789".toCharArray()) {
            x.feed(c, 0);
        }
        CHECK.due("the known sum of 123456789", x.checksum(), 0x4B37);
        x.endFrame();
        CHECK.due("no bytes again", x.checksum(), 65535);
        x.feed(0, 5);
        CHECK.due("one byte", x.checksum(), 0x40BF);
    }

    private static void verdicts() {
        RegisterGateway x = new RegisterGateway();
        for (int many : new int[] {4, 5, 29, 30}) {
            rightFrame(x, many);
            CHECK.due("sum with checksum", x.checksum(), 0);
            x.endFrame();
            latest("right " + many, x, 0, many);
        }
        rightFrame(x, 31);
        x.endFrame();
        latest("too long", x, 2, 31);
        rightFrame(x, 3);
        x.endFrame();
        latest("too short", x, 1, 3);
        bytes(x, 4, 0);
        x.endFrame();
        latest("wrong sum", x, 4, 4);
        rightFrame(x, 8);
        x.feed(0, 0);
        x.endFrame();
        latest("a zero behind it keeps the sum", x, 0, 9);
        bytes(x, 3, 2);
        x.endFrame();
        latest("short and broken", x, 1, 3);
        bytes(x, 31, 3);
        x.endFrame();
        latest("long and broken", x, 2, 31);
        bytes(x, 30, 2);
        x.endFrame();
        latest("broken and wrong", x, 3, 30);
    }

    private static void gaps() {
        for (int gap = 0; gap <= 4; gap++) {
            RegisterGateway x = new RegisterGateway();
            bytes(x, 5, 0);
            CHECK.due("gap " + gap, x.feed(9, gap), gap < 4 ? 6 : 1);
            x.feed(8, 0);
            x.feed(7, 0);
            CHECK.due("ended", x.endFrame(), gap < 4 ? 1 : 2);
            CHECK.due("verdict behind gap " + gap, x.verdict(0), gap < 2 ? 4 : gap < 4 ? 3 : 1);
        }
        for (int gap : new int[] {0, 2, 3, 4, 1000}) {
            RegisterGateway x = new RegisterGateway();
            CHECK.due("first byte's gap " + gap, x.feed(0, gap), 1);
            CHECK.due("no frame before it", x.verdict(0), -1);
            x.feed(1, 0);
            int sum = x.checksum();
            x.feed(sum & 255, 0);
            x.feed(sum >> 8, 0);
            CHECK.due("ended by a gap", x.feed(7, 1000), 1);
            latest("a gap before a frame does not break it", x, 0, 4);
            x.feed(7, 2);
            x.endFrame();
            rightFrame(x, 6);
            x.endFrame();
            latest("a broken frame does not break the next", x, 0, 6);
        }
    }

    private static void keptFrames() {
        RegisterGateway x = new RegisterGateway();
        CHECK.due("nothing ends", x.endFrame(), 0);
        CHECK.due("no verdict", x.verdict(0), -1);
        CHECK.due("no length", x.length(0), -1);
        for (int n = 1; n <= 12; n++) {
            bytes(x, n, 0);
            CHECK.due("ended", x.endFrame(), n);
            CHECK.due("ended again", x.endFrame(), n);
            for (int i = 0; i < 14; i++) {
                boolean kept = i < n && i < 10;
                CHECK.due("length " + i + " of " + n, x.length(i), kept ? n - i : -1);
                CHECK.due("verdict " + i + " of " + n, x.verdict(i), kept ? (n - i < 4 ? 1 : 4) : -1);
            }
        }
        CHECK.due("far", x.length(Integer.MAX_VALUE), -1);
        CHECK.due("far", x.verdict(Integer.MAX_VALUE), -1);
    }

    private static void longFrame() {
        RegisterGateway x = new RegisterGateway();
        for (int i = 1; i <= 500; i++) {
            CHECK.due("byte " + i, x.feed(i & 255, 0), i);
        }
        x.endFrame();
        latest("500 bytes", x, 2, 500);
    }

    private static void wrongArguments() {
        RegisterGateway x = new RegisterGateway();
        bytes(x, 5, 0);
        for (int wrong : new int[] {-1, 256, Integer.MAX_VALUE, Integer.MIN_VALUE}) {
            CHECK.illegalArgument("byte", x, () -> x.feed(wrong, 4));
        }
        for (int wrong : new int[] {-1, 1001, Integer.MAX_VALUE, Integer.MIN_VALUE}) {
            CHECK.illegalArgument("gap", x, () -> x.feed(0, wrong));
        }
        CHECK.due("the frame goes on", x.feed(255, 0), 6);
        for (int wrong : new int[] {-1, Integer.MIN_VALUE}) {
            CHECK.outOfBounds("verdict", x, () -> x.verdict(wrong));
            CHECK.outOfBounds("length", x, () -> x.length(wrong));
        }
    }

    public static void main(String[] args) {
        checksums();
        verdicts();
        gaps();
        keptFrames();
        longFrame();
        wrongArguments();
        CHECK.end("ListenerTest");
    }
}
