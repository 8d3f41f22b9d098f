/** Edges of promises 25 to 29 and of the paragraph "Listener"; each remark says which sentence is held. */
public final class ListenerEdgesTest {
    private static final Check CHECK = new Check();

    /** Feeds this many bytes, the second and all behind it with this gap. */
    private static void bytes(RegisterGateway x, int many, int gap) {
        for (int i = 0; i < many; i++) {
            x.feed(i & 255, i == 0 ? 0 : gap);
        }
    }

    /** Feeds a frame of this many bytes with a right checksum. */
    private static void rightFrame(RegisterGateway x, int many, int gap) {
        bytes(x, many - 2, gap);
        int sum = x.checksum();
        x.feed(sum & 255, gap);
        x.feed(sum >> 8, gap);
    }

    private static void latest(String name, RegisterGateway x, int verdict, int length) {
        CHECK.due(name + ": verdict", x.verdict(0), verdict);
        CHECK.due(name + ": length", x.length(0), length);
    }

    /** Promise 25: "b: 0 to 255". */
    private static void byteEdges() {
        RegisterGateway x = Scenes.worn();
        CHECK.range("b", x, 0, 255, Scenes.ILLEGAL_ARGUMENT, b -> x.feed(b, 0));
        CHECK.due("none of the refused ones was heard", x.feed(1, 0), 4 + 2 + 1);
    }

    /** Promise 25: "gap: 0 to 1000". */
    private static void gapEdges() {
        RegisterGateway x = Scenes.worn();
        CHECK.range("gap", x, 0, 1000, Scenes.ILLEGAL_ARGUMENT, gap -> x.feed(0, gap));
        CHECK.due("the gap of 1000 ended a frame, no refused one did", x.endFrame(), 2 + 1 + 1);
    }

    /** Promise 25: "Throws IllegalArgumentException if an argument is out of its range". */
    private static void feedRefuses() {
        RegisterGateway x = new RegisterGateway();
        bytes(x, 5, 0);
        CHECK.refused("b, with a gap that ends a frame", x, Scenes.ILLEGAL_ARGUMENT, b -> x.feed(b, 4), -1, 256);
        CHECK.refused("b, with a gap that breaks a frame", x, Scenes.ILLEGAL_ARGUMENT, b -> x.feed(b, 2), -1, 256);
        CHECK.refused("gap", x, Scenes.ILLEGAL_ARGUMENT, gap -> x.feed(5, gap), -1, 1001);
        CHECK.illegalArgument("both", x, () -> x.feed(256, -1));
        CHECK.due("the frame goes on", x.feed(5, 0), 6);
        x.endFrame();
        latest("not broken", x, 4, 6);
    }

    /**
     * Promise 25: "Feeds the listener with a byte." Promise 25: "Returns the number of bytes of the frame
     * that has not ended."
     */
    private static void feedReturnsHowMany() {
        RegisterGateway x = new RegisterGateway();
        for (int i = 1; i <= 505; i++) {
            CHECK.due("byte " + i, x.feed(i & 255, i % 4), i);
        }
        CHECK.due("the first of the next frame", x.feed(0, 4), 1);
        CHECK.due("its second", x.feed(0, 3), 2);
        x.endFrame();
        CHECK.due("the first behind endFrame", x.feed(0, 0), 1);
    }

    /** Promise 26: "Ends the frame that has not ended, if there is one." */
    private static void endFrameWithoutAFrame() {
        RegisterGateway x = new RegisterGateway();
        x.endFrame();
        CHECK.due("no frame: no verdict", x.verdict(0), -1);
        x.feed(7, 0);
        CHECK.due("one byte", x.endFrame(), 1);
        latest("a frame of one byte", x, 1, 1);
        CHECK.due("it does not end twice", x.endFrame(), 1);
        CHECK.due("there is no second one", x.length(1), -1);
        CHECK.due("the checksum begins anew", x.checksum(), 65535);
        CHECK.due("the bytes too", x.feed(7, 0), 1);
    }

    /** Promise 26: "Returns the number of frames that have ended, those included that are not kept any more." */
    private static void endFrameCounts() {
        RegisterGateway x = new RegisterGateway();
        CHECK.due("none", x.endFrame(), 0);
        for (int n = 1; n <= 200; n++) {
            x.feed(n, n % 5);
            CHECK.due("frames", x.endFrame(), n);
        }
        x.feed(0, 1000);
        x.feed(0, 1000);
        CHECK.due("ended by a gap and by the call", x.endFrame(), 202);
    }

    /** Promise 27: "Throws IndexOutOfBoundsException if i is negative". */
    private static void verdictRefuses() {
        RegisterGateway x = Scenes.full();
        CHECK.refused("full", x, Scenes.OUT_OF_BOUNDS, i -> x.verdict(i), -1, -10, Integer.MIN_VALUE);
        RegisterGateway y = new RegisterGateway();
        CHECK.refused("empty", y, Scenes.OUT_OF_BOUNDS, i -> y.verdict(i), -1, Integer.MIN_VALUE);
    }

    /** Promise 27: "i: 0 for the latest frame that has ended, 1 for the one before it, and so on". */
    private static void verdictsOfTheLatest() {
        RegisterGateway x = new RegisterGateway();
        rightFrame(x, 6, 0);
        x.feed(0, 4);
        bytes(x, 5, 0);
        x.endFrame();
        rightFrame(x, 30, 2);
        CHECK.due("the frame that has not ended is none of them", x.verdict(0), 4);
        x.endFrame();
        CHECK.due("latest", x.verdict(0), 3);
        CHECK.due("the one before", x.verdict(1), 4);
        CHECK.due("the first", x.verdict(2), 0);
        CHECK.due("none", x.verdict(3), -1);
    }

    /**
     * Promise 27: "Returns the verdict on a frame." Promise 27: "Returns the verdict; -1 if there is no
     * such frame, or it is not kept."
     */
    private static void verdictsThatAreKept() {
        RegisterGateway x = new RegisterGateway();
        CHECK.due("no frame", x.verdict(0), -1);
        for (int n = 1; n <= 25; n++) {
            bytes(x, n, 0);
            x.endFrame();
            for (int i = 0; i < 27; i++) {
                boolean kept = i < n && i < 10;
                CHECK.due("verdict " + i + " of " + n, x.verdict(i), !kept ? -1 : n - i < 4 ? 1 : 4);
            }
        }
        CHECK.due("far", x.verdict(Integer.MAX_VALUE), -1);
    }

    /** Promise 28: "Throws IndexOutOfBoundsException if i is negative". */
    private static void lengthRefuses() {
        RegisterGateway x = Scenes.full();
        CHECK.refused("full", x, Scenes.OUT_OF_BOUNDS, i -> x.length(i), -1, -10, Integer.MIN_VALUE);
        RegisterGateway y = new RegisterGateway();
        CHECK.refused("empty", y, Scenes.OUT_OF_BOUNDS, i -> y.length(i), -1, Integer.MIN_VALUE);
    }

    /** Promise 28: "i: 0 for the latest frame that has ended, 1 for the one before it, and so on". */
    private static void lengthsOfTheLatest() {
        RegisterGateway x = Scenes.full();
        x.feed(0, 0);
        for (int i = 0; i < 10; i++) {
            CHECK.due("length " + i, x.length(i), 11 - i);
        }
        CHECK.due("the eleventh is not kept", x.length(10), -1);
    }

    /**
     * Promise 28: "Returns the length of a frame." Promise 28: "Returns the number of its bytes; -1 if
     * there is no such frame, or it is not kept."
     */
    private static void lengthsThatAreKept() {
        RegisterGateway x = new RegisterGateway();
        CHECK.due("no frame", x.length(0), -1);
        for (int n = 1; n <= 25; n++) {
            bytes(x, n, 0);
            x.endFrame();
            for (int i = 0; i < 27; i++) {
                CHECK.due("length " + i + " of " + n, x.length(i), i < n && i < 10 ? n - i : -1);
            }
        }
        CHECK.due("far", x.length(Integer.MAX_VALUE), -1);
        RegisterGateway y = new RegisterGateway();
        bytes(y, 500, 1);
        y.endFrame();
        CHECK.due("a frame of 500 bytes", y.length(0), 500);
    }

    /** Promise 29: "Returns the checksum of the bytes of the frame that has not ended." */
    private static void checksumOfTheOpenFrame() {
        RegisterGateway x = new RegisterGateway();
        x.feed(0, 0);
        int one = x.checksum();
        x.feed(0, 0);
        CHECK.due("a second byte changes it", x.checksum() != one, true);
        x.feed(0, 4);
        CHECK.due("a frame that has ended is not in it", x.checksum(), one);
        CHECK.due("asking changes nothing", x.checksum(), one);
    }

    /** Promise 29: "Returns the checksum, 0 to 65535 (65535 if there are no bytes)." */
    private static void checksumEdges() {
        RegisterGateway x = new RegisterGateway();
        CHECK.due("no bytes", x.checksum(), 65535);
        x.feed(255, 0);
        x.feed(255, 0);
        CHECK.due("the least", x.checksum(), 0);
        x.endFrame();
        CHECK.due("no bytes again", x.checksum(), 65535);
        x.feed(255, 0);
        CHECK.due("one byte", x.checksum(), 255);
        x.feed(0, 4);
        CHECK.due("of the frame that has not ended alone", x.checksum(), 16575);
        x.feed(0, 3);
        int broken = x.checksum();
        x.endFrame();
        x.feed(0, 0);
        x.feed(0, 0);
        CHECK.due("a gap within a frame leaves it", x.checksum(), broken);
    }

    /** Description, Listener: "It is fed with bytes, each with a gap: the number of ticks of silence before it." */
    private static void gapStandsBeforeItsByte() {
        RegisterGateway x = new RegisterGateway();
        x.feed(1, 0);
        x.feed(2, 0);
        x.feed(3, 4);
        CHECK.due("the byte begins the next frame", x.length(0), 2);
        CHECK.due("its checksum", x.checksum(), sumOf(3));
    }

    private static int sumOf(int b) {
        RegisterGateway x = new RegisterGateway();
        x.feed(b, 0);
        return x.checksum();
    }

    /** Description, Listener: "A gap of 4 or more ends the frame before, if there is one." */
    private static void gapThatEnds() {
        for (int gap : new int[] {0, 1, 2, 3, 4, 5, 999, 1000}) {
            RegisterGateway x = new RegisterGateway();
            CHECK.due("the first byte", x.feed(0, gap), 1);
            CHECK.due("there was no frame before", x.verdict(0), -1);
            CHECK.due("the second byte, gap " + gap, x.feed(0, gap), gap < 4 ? 2 : 1);
            CHECK.due("a frame has ended", x.length(0), gap < 4 ? -1 : 1);
            CHECK.due("frames", x.endFrame(), gap < 4 ? 1 : 2);
            x.feed(0, gap);
            CHECK.due("behind endFrame there is none to end", x.endFrame(), gap < 4 ? 2 : 3);
        }
    }

    /** Description, Listener: "A gap of 2 or 3 within a frame breaks it." */
    private static void gapThatBreaks() {
        for (int gap = 0; gap <= 3; gap++) {
            RegisterGateway x = new RegisterGateway();
            rightFrame(x, 6, gap);
            x.endFrame();
            latest("all gaps " + gap, x, gap < 2 ? 0 : 3, 6);
            rightFrame(x, 6, 0);
            x.endFrame();
            latest("the next frame is whole", x, 0, 6);
        }
        for (int place = 0; place < 6; place++) {
            RegisterGateway x = new RegisterGateway();
            rightFrameBrokenAt(x, place);
            x.endFrame();
            latest("a gap of 2 before byte " + place, x, place == 0 ? 0 : 3, 6);
        }
    }

    /** A frame of six bytes with a right checksum and a gap of 2 before the one at this place. */
    private static void rightFrameBrokenAt(RegisterGateway x, int place) {
        for (int i = 0; i < 4; i++) {
            x.feed(i, i == place ? 2 : 0);
        }
        int sum = x.checksum();
        x.feed(sum & 255, place == 4 ? 2 : 0);
        x.feed(sum >> 8, place == 5 ? 2 : 0);
    }

    /** Description, Listener: "A frame that has ended has a verdict: 1 if it has fewer than 4 bytes". */
    private static void tooShort() {
        RegisterGateway x = new RegisterGateway();
        rightFrame(x, 3, 0);
        x.endFrame();
        latest("3 with a right checksum", x, 1, 3);
        rightFrame(x, 4, 0);
        x.endFrame();
        latest("4 with a right checksum", x, 0, 4);
        bytes(x, 3, 2);
        x.endFrame();
        latest("3, broken", x, 1, 3);
        bytes(x, 4, 2);
        x.endFrame();
        latest("4, broken", x, 3, 4);
    }

    /** Description, Listener: "otherwise 2 if it has more than 30". */
    private static void tooLong() {
        RegisterGateway x = new RegisterGateway();
        rightFrame(x, 30, 1);
        x.endFrame();
        latest("30", x, 0, 30);
        rightFrame(x, 31, 1);
        x.endFrame();
        latest("31", x, 2, 31);
        bytes(x, 31, 3);
        x.endFrame();
        latest("31, broken and without a right checksum", x, 2, 31);
    }

    /** Description, Listener: "otherwise 3 if it is broken". */
    private static void broken() {
        RegisterGateway x = new RegisterGateway();
        rightFrame(x, 30, 3);
        x.endFrame();
        latest("with a right checksum", x, 3, 30);
        bytes(x, 4, 2);
        x.endFrame();
        latest("without one", x, 3, 4);
    }

    /** Description, Listener: "otherwise 4 if its checksum is not right, otherwise 0". */
    private static void wrongChecksum() {
        for (int bit = 0; bit < 8; bit++) {
            for (int place = 0; place < 2; place++) {
                RegisterGateway x = new RegisterGateway();
                bytes(x, 6, 0);
                int sum = x.checksum() ^ 1 << bit + 8 * place;
                x.feed(sum & 255, 0);
                x.feed(sum >> 8, 0);
                x.endFrame();
                latest("bit " + bit + " of byte " + place, x, 4, 8);
            }
        }
        RegisterGateway y = new RegisterGateway();
        bytes(y, 6, 0);
        int sum = y.checksum();
        y.feed(sum >> 8, 0);
        y.feed(sum & 255, 0);
        y.endFrame();
        latest("its higher byte first", y, 4, 8);
        rightFrame(y, 8, 0);
        y.endFrame();
        latest("right", y, 0, 8);
    }

    /** Description, Listener: "The latest 10 frames are kept." */
    private static void tenAreKept() {
        RegisterGateway x = new RegisterGateway();
        for (int n = 1; n <= 10; n++) {
            bytes(x, n, 0);
            x.endFrame();
        }
        CHECK.due("the first of ten", x.length(9), 1);
        CHECK.due("its verdict", x.verdict(9), 1);
        bytes(x, 11, 0);
        CHECK.due("one that has not ended takes no place", x.length(9), 1);
        x.endFrame();
        CHECK.due("the second takes its place", x.length(9), 2);
        CHECK.due("the first is gone", x.length(10), -1);
        CHECK.due("its verdict is gone", x.verdict(10), -1);
        CHECK.due("the latest", x.length(0), 11);
    }

    public static void main(String[] args) {
        CHECK.runAll(ListenerEdgesTest.class);
    }
}
