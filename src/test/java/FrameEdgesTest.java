/**
 * Edges of promises 18 and 19, of the paragraph "Frames" and of what a step joins; each remark says
 * which sentence is held. The checksums of the frames here were reckoned apart from the class.
 */
public final class FrameEdgesTest {
    private static final Check CHECK = new Check();

    private static void frame(String name, RegisterGateway x, int... due) {
        for (int k = 0; k < due.length; k++) {
            CHECK.due(name + ": frameByte(" + k + ")", x.frameByte(k), due[k]);
        }
        CHECK.due(name + ": behind the frame", x.frameByte(due.length), -1);
    }

    private static RegisterGateway reads(int... startsAndCounts) {
        RegisterGateway x = new RegisterGateway();
        for (int i = 0; i < startsAndCounts.length; i += 2) {
            x.read(0, 1, startsAndCounts[i], startsAndCounts[i + 1]);
        }
        return x;
    }

    private static RegisterGateway writes(int... registers) {
        RegisterGateway x = new RegisterGateway();
        for (int i = 0; i < registers.length; i++) {
            x.write(0, 1, registers[i], i);
        }
        return x;
    }

    private static long bits(int... numbers) {
        long bits = 0;
        for (int n : numbers) {
            bits |= 1L << n;
        }
        return bits;
    }

    /**
     * Promise 18: "Returns the set of the requests of the group (or the one request that is done from the
     * cache), bit i for request i; 0 if none is waiting."
     */
    private static void groupIsASet() {
        RegisterGateway x = new RegisterGateway();
        CHECK.due("no request", x.group(), 0);
        x.read(0, 1, 0, 2);
        CHECK.due("one request", x.group(), 1);
        CHECK.due("asked again", x.group(), 1);
        CHECK.due("asking changes nothing", x.requests(0), 1);
        x.step();
        CHECK.due("none is waiting", x.group(), 0);
        x.read(0, 1, 0, 1);
        x.read(0, 1, 1, 1);
        CHECK.due("one that is done from the cache", x.group(), bits(1));
        x.step();
        CHECK.due("the next", x.group(), bits(2));
    }

    /** Promise 18: "bit i for request i". */
    private static void groupOfTheLastRequests() {
        RegisterGateway x = new RegisterGateway();
        for (int i = 0; i < 40; i++) {
            x.read(0, 1, 0, 1);
        }
        CHECK.due("all forty", x.group(), 0xFFFFFFFFFFL);
        x.set(4, 0);
        for (int i = 0; i < 38; i++) {
            CHECK.due("request " + i, x.group(), 1L << i);
            x.step();
        }
        x.clearCache();
        x.set(4, 1);
        CHECK.due("the last two", x.group(), 1L << 38 | 1L << 39);
        x.set(4, 0);
        x.step();
        CHECK.due("the last one", x.group(), 1L << 39);
        x.step();
        CHECK.due("none", x.group(), 0);
    }

    /** Promise 18: "Returns the requests that the next step would handle." */
    private static void groupIsWhatTheStepHandles() {
        for (RegisterGateway x : new RegisterGateway[] {Scenes.worn(), Scenes.full(), new RegisterGateway()}) {
            for (int step = 0; step < 41; step++) {
                long group = x.group();
                long before = waiting(x);
                CHECK.due("how many", x.step(), Long.bitCount(group));
                CHECK.due("which ones", before & ~waiting(x), group);
            }
        }
    }

    private static long waiting(RegisterGateway x) {
        long bits = 0;
        int all = x.requests(0) + x.requests(1) + x.requests(2);
        for (int i = 0; i < all; i++) {
            bits |= x.request(i, 5) == 0 ? 1L << i : 0;
        }
        return bits;
    }

    /** Promise 19: "Returns a byte of the frame that the next step would send." */
    private static void frameIsWhatTheStepSends() {
        RegisterGateway x = writes(5, 6, 9);
        frame("the group's frame", x, 1, 16, 0, 5, 0, 2, 4, 0, 0, 0, 1, x.frameByte(11), x.frameByte(12));
        x.step();
        CHECK.due("13 bytes were sent", x.time(), 4 + 13 + 5 + 8);
        CHECK.due("the next frame", x.frameByte(3), 9);
        x.set(4, 0);
        x.read(0, 1, 0, 1);
        x.step();
        CHECK.due("the frame behind it", x.frameByte(1), 3);
    }

    /** Promise 19: "Throws IndexOutOfBoundsException if k is negative". Promise 19: "k: its index, 0 or more". */
    private static void frameByteRefuses() {
        RegisterGateway x = Scenes.worn();
        CHECK.refused("with a frame", x, Scenes.OUT_OF_BOUNDS, k -> x.frameByte(k), -1, Integer.MIN_VALUE);
        RegisterGateway y = new RegisterGateway();
        CHECK.refused("without a frame", y, Scenes.OUT_OF_BOUNDS, k -> y.frameByte(k), -1, Integer.MIN_VALUE);
        CHECK.due("0 is no wrong index", y.frameByte(0), -1);
    }

    /** Promise 19: "Returns the byte; -1 if there are not so many bytes, or no frame would be sent." */
    private static void frameByteBehindTheFrame() {
        RegisterGateway x = reads(0, 1);
        CHECK.due("first byte", x.frameByte(0), 1);
        CHECK.due("last byte", x.frameByte(7), 10);
        for (int k : new int[] {8, 9, 36, 37, 38, 1000, Integer.MAX_VALUE}) {
            CHECK.due("byte " + k, x.frameByte(k), -1);
        }
        RegisterGateway y = writes(0, 1, 2, 3, 4, 5, 6, 7);
        CHECK.due("last byte of the longest frame", y.frameByte(24) >= 0, true);
        CHECK.due("behind the longest frame", y.frameByte(25), -1);
    }

    /** Promise 19: "-1 if there are not so many bytes, or no frame would be sent". */
    private static void frameByteWithoutAFrame() {
        RegisterGateway x = new RegisterGateway();
        CHECK.due("no request", x.frameByte(0), -1);
        x.read(0, 1, 0, 1);
        CHECK.due("a frame", x.frameByte(0), 1);
        x.step();
        CHECK.due("none is waiting", x.frameByte(0), -1);
        x.read(0, 1, 0, 1);
        CHECK.due("done from the cache", x.frameByte(0), -1);
        CHECK.due("done from the cache, a later byte", x.frameByte(7), -1);
        x.clearCache();
        CHECK.due("a frame again", x.frameByte(7), 10);
        CHECK.due("asking sends nothing", x.count(0), 1);
    }

    /**
     * Description, Frames: "A frame is a sequence of bytes: the device, the function, the data, and the
     * checksum of all bytes before (its lower byte first)."
     */
    private static void partsOfAFrame() {
        frame("least read", reads(0, 1), 1, 3, 0, 0, 0, 1, 132, 10);
        RegisterGateway x = new RegisterGateway();
        x.read(0, 3, 1000, 16);
        frame("greatest read", x, 3, 3, 3, 232, 0, 16, 197, 148);
        RegisterGateway y = new RegisterGateway();
        y.write(0, 2, 1000, 65535);
        frame("greatest write", y, 2, 6, 3, 232, 255, 255, 8, 57);
    }

    /** Description, Frames: "The checksum is 65535 at first". */
    private static void firstChecksum() {
        CHECK.due("no byte", new RegisterGateway().checksum(), 65535);
    }

    /**
     * Description, Frames: "for each byte, it becomes itself xor the byte, and then, eight times: if its
     * lowest bit is 1, it is shifted right by 1 and becomes itself xor 40961, otherwise it is only shifted
     * right by 1".
     */
    private static void checksumOfBytes() {
        int[] bytes = {0, 255};
        int[] due = {16575, 255};
        for (int i = 0; i < 2; i++) {
            RegisterGateway x = new RegisterGateway();
            x.feed(bytes[i], 0);
            CHECK.due("byte " + bytes[i], x.checksum(), due[i]);
        }
        RegisterGateway y = new RegisterGateway();
        for (char c : "123456789".toCharArray()) {
            y.feed(c, 0);
        }
        CHECK.due("the well-known sum of 123456789", y.checksum(), 0x4B37);
    }

    /** Description, Frames: "Numbers of 16 bits have their higher byte first." */
    private static void higherByteFirst() {
        frame("start 255", reads(255, 1), 1, 3, 0, 255, 0, 1, 180, 58);
        frame("start 256", reads(256, 1), 1, 3, 1, 0, 0, 1, 133, 246);
        RegisterGateway x = new RegisterGateway();
        x.write(0, 2, 5, 255);
        frame("value 255", x, 2, 6, 0, 5, 0, 255, 217, 184);
        x.write(0, 2, 5, 256);
        frame("value 256", x, 2, 6, 0, 5, 1, 0, 152, 104);
        x.step();
        CHECK.due("as the device understands it", x.peek(2, 5), 256);
        x.poke(2, 5, 258);
        x.clearCache();
        int request = x.read(0, 2, 5, 1);
        x.step();
        CHECK.due("in a reply", x.value(request, 0), 258);
    }

    /** Description, Frames: "function 3 (read): the start and the count; reply: one byte 2 * count, and the values". */
    private static void functionRead() {
        frame("count 1", reads(0, 1), 1, 3, 0, 0, 0, 1, 132, 10);
        RegisterGateway x = reads(0, 16);
        frame("count 16", x, 1, 3, 0, 0, 0, 16, 68, 6);
        x.poke(1, 0, 1);
        x.poke(1, 15, 65535);
        x.step();
        CHECK.due("the reply has 37 bytes", x.time(), 12 + 5 + 37);
        CHECK.due("first value", x.value(0, 0), 1);
        CHECK.due("last value", x.value(0, 15), 65535);
    }

    /** Description, Frames: "function 6 (write one): the register and the value; reply: the same". */
    private static void functionWriteOne() {
        RegisterGateway x = writes(0);
        frame("register 0, value 0", x, 1, 6, 0, 0, 0, 0, 137, 202);
        x.step();
        CHECK.due("the reply has 8 bytes", x.time(), 12 + 5 + 8);
        CHECK.due("it fits", x.count(1), 1);
    }

    /**
     * Description, Frames: "function 16 (write many): the start, the count, one byte 2 * count, and the
     * values; reply: the start and the count".
     */
    private static void functionWriteMany() {
        RegisterGateway x = new RegisterGateway();
        x.write(0, 1, 0, 1);
        x.write(0, 1, 1, 65535);
        frame("two", x, 1, 16, 0, 0, 0, 2, 4, 0, 1, 255, 255, 163, 223);
        x.step();
        CHECK.due("two: the reply has 8 bytes", x.time(), 4 + 13 + 5 + 8);
        RegisterGateway y = writes(24, 25, 26, 27, 28, 29, 30, 31);
        frame("eight", y, 1, 16, 0, 24, 0, 8, 16, 0, 0, 0, 1, 0, 2, 0, 3, 0, 4, 0, 5, 0, 6, 0, 7, 15, 221);
        y.step();
        CHECK.due("eight: the reply has 8 bytes", y.time(), 4 + 25 + 5 + 8);
        for (int r = 24; r < 32; r++) {
            CHECK.due("written " + r, y.peek(1, r), r - 24);
        }
        CHECK.due("it fits", y.count(1), 1);
    }

    /** Description, Frames: "an exception: the function plus 128 and one byte, the code". */
    private static void exceptionReply() {
        for (RegisterGateway x : new RegisterGateway[] {reads(32, 1), writes(32)}) {
            x.step();
            CHECK.due("5 bytes, taken as an exception for its function", x.time(), 12 + 5 + 5);
            CHECK.due("code", x.request(0, 6), 2);
        }
        RegisterGateway many = writes(32, 33);
        many.step();
        CHECK.due("5 bytes for write many", many.time(), 4 + 13 + 5 + 5);
        CHECK.due("code for write many", many.request(1, 6), 2);
    }

    private static int code(RegisterGateway x) {
        x.finish();
        return x.request(0, 6);
    }

    /** Description, Frames: "A device that gets a frame replies with the exception 2 if a register does not exist". */
    private static void registersThatDoNotExist() {
        CHECK.due("read 31", code(reads(31, 1)), 0);
        CHECK.due("read 32", code(reads(32, 1)), 2);
        CHECK.due("read 30 and 31", code(reads(30, 2)), 0);
        CHECK.due("read 31 and 32", code(reads(31, 2)), 2);
        CHECK.due("read 16 to 31", code(reads(16, 16)), 0);
        CHECK.due("read 17 to 32", code(reads(17, 16)), 2);
        CHECK.due("read 1000 to 1015", code(reads(1000, 16)), 2);
        CHECK.due("write 31", code(writes(31)), 0);
        CHECK.due("write 32", code(writes(32)), 2);
        CHECK.due("write 1000", code(writes(1000)), 2);
        CHECK.due("write 30 and 31", code(writes(30, 31)), 0);
        RegisterGateway x = writes(30, 31, 32);
        x.poke(1, 30, 77);
        CHECK.due("write 30 to 32", code(x), 2);
        CHECK.due("nothing of it is written", x.peek(1, 30), 77);
    }

    /** Description, Frames: "or (for writing) can only be read". */
    private static void registersThatCanOnlyBeRead() {
        for (int locked = 9; locked <= 13; locked++) {
            RegisterGateway x = writes(10, 11, 12);
            x.protect(1, locked, true);
            x.poke(1, 10, 77);
            boolean hit = locked >= 10 && locked <= 12;
            CHECK.due("write 10 to 12, locked " + locked, code(x), hit ? 2 : 0);
            CHECK.due("register 10", x.peek(1, 10), hit ? 77 : 0);
            RegisterGateway y = reads(10, 3);
            y.protect(1, locked, true);
            CHECK.due("read 10 to 12, locked " + locked, code(y), 0);
        }
    }

    private static int codeOfWrites(int greatest, int first, int last) {
        RegisterGateway x = new RegisterGateway();
        x.setDevice(1, 1, greatest);
        x.write(0, 1, 0, first);
        x.write(0, 1, 1, last);
        return code(x);
    }

    /**
     * Description, Frames: "otherwise with the exception 3 if a value to be written is greater than its
     * greatest value".
     */
    private static void valuesThatAreTooGreat() {
        CHECK.due("both at it", codeOfWrites(100, 100, 100), 0);
        CHECK.due("the first above it", codeOfWrites(100, 101, 100), 3);
        CHECK.due("the last above it", codeOfWrites(100, 0, 101), 3);
        CHECK.due("zeros by 0", codeOfWrites(0, 0, 0), 0);
        CHECK.due("1 by 0", codeOfWrites(0, 0, 1), 3);
        RegisterGateway x = reads(0, 1);
        x.poke(1, 0, 65535);
        x.setDevice(1, 1, 0);
        CHECK.due("reading is not held by it", code(x), 0);
        RegisterGateway y = new RegisterGateway();
        y.setDevice(1, 1, 100);
        y.write(0, 1, 0, 101);
        y.write(0, 1, 0, 100);
        CHECK.due("a value that another one of the group hides is not written", code(y), 0);
    }

    /** Description, Frames: "otherwise with the exception 3". */
    private static void exceptionTwoBeforeThree() {
        RegisterGateway x = new RegisterGateway();
        x.setDevice(1, 1, 0);
        x.protect(1, 1, true);
        x.write(0, 1, 0, 65535);
        x.write(0, 1, 1, 0);
        CHECK.due("readable only and too great", code(x), 2);
        RegisterGateway y = new RegisterGateway();
        y.setDevice(1, 1, 0);
        y.write(0, 1, 31, 65535);
        y.write(0, 1, 32, 65535);
        CHECK.due("no register and too great", code(y), 2);
    }

    /** Description, Frames: "(writing takes effect even if the reply is lost)". */
    private static void writingWithoutAReply() {
        RegisterGateway x = writes(30, 31);
        x.set(2, 0);
        x.fault(1, 1, 0);
        CHECK.due("lost", code(x), 11);
        CHECK.due("written", x.peek(1, 31), 1);
        RegisterGateway y = writes(30, 31);
        y.set(2, 0);
        y.fault(1, 2, 0);
        CHECK.due("damaged", code(y), 11);
        CHECK.due("written too", y.peek(1, 31), 1);
    }

    /** Description, A step of the gateway: "Otherwise a group is formed, at first q alone, with the range of q's registers." */
    private static void groupOfOne() {
        CHECK.due("a read", reads(5, 16).group(), 1);
        CHECK.due("a write", writes(5).group(), 1);
        RegisterGateway x = reads(5, 2, 7, 1);
        x.set(4, 0);
        CHECK.due("joining is off", x.group(), 1);
        CHECK.due("its own start", x.frameByte(3), 5);
        CHECK.due("its own count", x.frameByte(5), 2);
    }

    /**
     * Description, A step of the gateway: "If joining is on, the other waiting requests for the same
     * device are looked at, each once, in ascending order of their numbers".
     */
    private static void lookedAtOnce() {
        CHECK.due("2 makes 1 a neighbour too late", reads(0, 1, 2, 1, 1, 1).group(), bits(0, 2));
        CHECK.due("in ascending order", reads(0, 1, 1, 1, 2, 1).group(), bits(0, 1, 2));
        CHECK.due("writes", writes(0, 2, 1).group(), bits(0, 2));
        RegisterGateway x = reads(0, 1);
        x.read(0, 2, 1, 1);
        x.read(3, 1, 1, 1);
        CHECK.due("the same device, any client", x.group(), bits(0, 2));
        RegisterGateway y = new RegisterGateway();
        y.read(0, 1, 40, 1);
        y.step();
        y.read(0, 1, 5, 1);
        y.read(0, 1, 6, 1);
        CHECK.due("waiting ones alone", y.group(), bits(1, 2));
        RegisterGateway z = reads(5, 1);
        z.step();
        z.read(0, 1, 6, 1);
        z.read(0, 1, 5, 1);
        CHECK.due("one that the cache could answer is looked at like the others", z.group(), bits(1, 2));
        z.step();
        CHECK.due("and is not done from the cache then", z.request(2, 8), 0);
    }

    /** Description, A step of the gateway: "one joins the group if it is of the same kind as q (read or write)". */
    private static void sameKind() {
        RegisterGateway x = reads(5, 1);
        x.write(0, 1, 6, 1);
        x.read(0, 1, 4, 1);
        CHECK.due("reads", x.group(), bits(0, 2));
        RegisterGateway y = writes(5);
        y.read(0, 1, 6, 1);
        y.write(0, 1, 4, 1);
        CHECK.due("writes", y.group(), bits(0, 2));
    }

    /** Description, A step of the gateway: "its range overlaps the range of the group or lies directly beside it". */
    private static void besideOrApart() {
        for (int start = 0; start <= 12; start++) {
            boolean joins = start >= 3 && start <= 8;
            CHECK.due("6 and 7, and two from " + start, reads(6, 2, start, 2).group(), joins && start >= 4 ? 3 : 1);
            CHECK.due("6 and 7, and three from " + start, reads(6, 2, start, 3).group(), joins ? 3 : 1);
        }
        CHECK.due("within", reads(6, 3, 7, 1).group(), 3);
        CHECK.due("around", reads(7, 1, 6, 3).group(), 3);
        for (int register = 3; register <= 9; register++) {
            CHECK.due("writes to 6 and " + register, writes(6, register).group(), register >= 5 && register <= 7 ? 3 : 1);
        }
    }

    /** Description, A step of the gateway: "both ranges together have at most 16 registers for reads". */
    private static void sixteenForReads() {
        CHECK.due("16 upwards", reads(0, 8, 8, 8).group(), 3);
        CHECK.due("17 upwards", reads(0, 8, 8, 9).group(), 1);
        CHECK.due("16 downwards", reads(8, 8, 0, 8).group(), 3);
        CHECK.due("17 downwards", reads(9, 8, 0, 9).group(), 1);
        CHECK.due("16 and the same", reads(3, 16, 3, 16).group(), 3);
        CHECK.due("16 and one more above", reads(3, 16, 4, 16).group(), 1);
        CHECK.due("16 and one more below", reads(3, 16, 2, 2).group(), 1);
        CHECK.due("overlapping, 16", reads(0, 10, 6, 10).group(), 3);
        CHECK.due("overlapping, 17", reads(0, 10, 7, 10).group(), 1);
        CHECK.due("17 by three", reads(0, 15, 15, 1, 16, 1).group(), 3);
        frame("16", reads(0, 8, 8, 8), 1, 3, 0, 0, 0, 16, 68, 6);
    }

    /** Description, A step of the gateway: "and 8 for writes". */
    private static void eightForWrites() {
        CHECK.due("8 upwards", writes(10, 11, 12, 13, 14, 15, 16, 17).group(), 0xFF);
        CHECK.due("9 upwards", writes(10, 11, 12, 13, 14, 15, 16, 17, 18).group(), 0xFF);
        CHECK.due("9 downwards", writes(18, 17, 16, 15, 14, 13, 12, 11, 10).group(), 0xFF);
        CHECK.due("more requests than 8", writes(1, 2, 3, 4, 5, 6, 7, 8, 1, 8, 9, 0).group(), 0x3FF);
    }

    /**
     * Description, A step of the gateway: "and no waiting request for this device that has a smaller
     * number, is not in the group, and has a range that overlaps its own, is a write". The write to 6
     * waits outside the group of reads.
     */
    private static void earlierWriteBarsReads() {
        for (int start = 4; start <= 8; start++) {
            RegisterGateway x = reads(4, 2);
            x.write(0, 1, 6, 1);
            x.read(0, 1, start, 1);
            boolean joins = start <= 5;
            CHECK.due("a read of " + start, x.group(), joins ? bits(0, 2) : 1);
        }
        RegisterGateway y = reads(4, 2);
        y.write(0, 1, 7, 1);
        y.read(0, 1, 6, 1);
        y.read(0, 1, 6, 2);
        y.write(0, 1, 5, 1);
        CHECK.due("below the write is no overlap, and a later write bars nothing", y.group(), bits(0, 2));
        RegisterGateway z = reads(8, 1);
        z.write(0, 1, 6, 1);
        z.read(0, 1, 7, 1);
        CHECK.due("above the write is no overlap", z.group(), bits(0, 2));
    }

    /** Description, A step of the gateway: "and has a range that overlaps its own, is a write". */
    private static void earlierWriteBarsWrites() {
        CHECK.due("the earlier write to 7 waits outside", writes(5, 7, 6, 7).group(), bits(0, 2));
        CHECK.due("an earlier one in the group bars nothing", writes(5, 6, 6, 5).group(), bits(0, 1, 2, 3));
        RegisterGateway x = writes(5, 7, 6, 7);
        x.finish();
        CHECK.due("their order stays", x.peek(1, 7), 3);
    }

    /** Description, A step of the gateway: "(or, if the request that would join is a write, a read)". */
    private static void earlierReadBarsWrites() {
        for (int register = 4; register <= 9; register++) {
            RegisterGateway x = writes(5);
            x.read(0, 1, 6, 2);
            x.write(0, 1, register, 1);
            boolean joins = register == 4 || register == 5;
            CHECK.due("a write to " + register, x.group(), joins ? bits(0, 2) : 1);
        }
        RegisterGateway y = writes(9);
        y.read(0, 1, 6, 2);
        y.write(0, 1, 8, 1);
        y.write(0, 1, 7, 1);
        CHECK.due("above the read is no overlap, its last register is", y.group(), bits(0, 2));
        CHECK.due("an earlier read bars no read", reads(5, 1, 7, 1, 6, 1, 7, 1).group(), bits(0, 2, 3));
    }

    /** Description, A step of the gateway: "no waiting request for this device that has a smaller number". */
    private static void whatBarsNothing() {
        RegisterGateway x = reads(5, 1);
        x.write(0, 2, 6, 1);
        x.read(0, 1, 6, 1);
        CHECK.due("a write to another device", x.group(), bits(0, 2));
        RegisterGateway y = new RegisterGateway();
        y.write(0, 1, 6, 1);
        y.step();
        y.clearCache();
        y.read(0, 1, 5, 1);
        y.read(0, 1, 6, 1);
        CHECK.due("a write that is done", y.group(), bits(1, 2));
        RegisterGateway z = reads(5, 1, 6, 1);
        z.write(0, 1, 6, 1);
        CHECK.due("a write with a greater number", z.group(), bits(0, 1));
    }

    /** Description, A step of the gateway: "The range of the group becomes both ranges together." */
    private static void rangeGrows() {
        RegisterGateway x = reads(5, 1, 6, 1, 4, 1, 7, 1, 3, 1);
        CHECK.due("a chain", x.group(), 0x1F);
        CHECK.due("start", x.frameByte(3), 3);
        CHECK.due("count", x.frameByte(5), 5);
        RegisterGateway y = reads(3, 5, 4, 2);
        CHECK.due("it does not shrink: start", y.frameByte(3), 3);
        CHECK.due("it does not shrink: count", y.frameByte(5), 5);
    }

    /**
     * Description, A step of the gateway: "The frame for the group has the function 3 for reads, 6 for
     * writes if the range is one register, and 16 otherwise".
     */
    private static void functionOfTheFrame() {
        CHECK.due("one register is read", reads(5, 1).frameByte(1), 3);
        CHECK.due("16 registers are read", reads(5, 16).frameByte(1), 3);
        CHECK.due("one write", writes(5).frameByte(1), 6);
        CHECK.due("three writes to one register", writes(5, 5, 5).frameByte(1), 6);
        CHECK.due("two registers are written", writes(5, 6).frameByte(1), 16);
        CHECK.due("eight registers are written", writes(5, 6, 7, 8, 9, 10, 11, 12).frameByte(1), 16);
    }

    /**
     * Description, A step of the gateway: "for writes, each register gets the value of the request of the
     * group with the greatest number that writes it".
     */
    private static void latestValueIsWritten() {
        RegisterGateway x = writes(5, 6, 5, 6, 6);
        CHECK.due("register 5", x.frameByte(8), 2);
        CHECK.due("register 6", x.frameByte(10), 4);
        x.step();
        CHECK.due("written to 5", x.peek(1, 5), 2);
        CHECK.due("written to 6", x.peek(1, 6), 4);
        RegisterGateway y = writes(5, 5);
        CHECK.due("of one register", y.frameByte(5), 1);
        RegisterGateway z = writes(5, 7, 6, 7, 5);
        CHECK.due("a request outside the group is not looked at", z.group(), bits(0, 2, 4));
        CHECK.due("count", z.frameByte(5), 2);
        CHECK.due("its value of 5", z.frameByte(8), 4);
        CHECK.due("its value of 6", z.frameByte(10), 2);
    }

    public static void main(String[] args) {
        CHECK.runAll(FrameEdgesTest.class);
    }
}
