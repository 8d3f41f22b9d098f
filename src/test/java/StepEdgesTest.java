/**
 * Edges of promises 14 to 17 and 23 and of the paragraph "Trying a frame"; each remark says which
 * sentence is held. A frame of a read has 8 bytes, so that the device gets it 12 ticks after the
 * attempt's begin; its reply has 5 bytes and 2 for each register, an exception has 5.
 */
public final class StepEdgesTest {
    private static final Check CHECK = new Check();

    private static void counts(String name, RegisterGateway x, int... due) {
        for (int what = 0; what < due.length; what++) {
            CHECK.due(name + ": count(" + what + ")", x.count(what), due[what]);
        }
    }

    private static void ended(String name, RegisterGateway x, int request, int state, int code, int time) {
        CHECK.due(name + ": state", x.request(request, 5), state);
        CHECK.due(name + ": code", x.request(request, 6), code);
        CHECK.due(name + ": time", x.request(request, 7), time);
    }

    /**
     * Promise 14: "Makes a step." Promise 14: "Returns the number of requests that are done or failed by
     * it; 0 if none is waiting."
     */
    private static void stepReturnsHowMany() {
        RegisterGateway x = new RegisterGateway();
        CHECK.due("no request", x.step(), 0);
        CHECK.due("no time passes", x.time(), 0);
        x.read(0, 1, 0, 1);
        CHECK.due("one is done", x.step(), 1);
        CHECK.due("none is waiting", x.step(), 0);
        CHECK.due("no time passes then", x.time(), 24);
        x.read(0, 1, 0, 1);
        CHECK.due("one is done from the cache", x.step(), 1);
        x.read(0, 1, 40, 1);
        x.write(0, 1, 40, 1);
        x.read(0, 1, 39, 1);
        CHECK.due("two fail", x.step(), 2);
        CHECK.due("one fails", x.step(), 1);
        CHECK.due("none is waiting again", x.step(), 0);
    }

    /** Promise 14: "Returns the number of requests that are done or failed by it". */
    private static void stepOfForty() {
        RegisterGateway x = new RegisterGateway();
        for (int i = 0; i < 40; i++) {
            x.read(i % 4, 1, i % 16, 1);
        }
        CHECK.due("forty are done", x.step(), 40);
        CHECK.due("with one frame", x.count(0), 1);
        CHECK.due("none is waiting", x.step(), 0);
    }

    /** Promise 15: "Makes steps until no request is waiting." */
    private static void finishMakesAllSteps() {
        RegisterGateway x = new RegisterGateway();
        x.set(4, 0);
        x.set(0, 0);
        for (int i = 0; i < 40; i++) {
            x.read(i % 4, 1, i % 32, 1);
        }
        x.finish();
        CHECK.due("none is waiting", x.requests(0), 0);
        CHECK.due("forty steps, a frame each", x.count(0), 40);
        CHECK.due("the last is done", x.request(39, 7), 40 * 24);
    }

    /** Promise 15: "Returns the time then." */
    private static void finishReturnsTheTime() {
        RegisterGateway x = new RegisterGateway();
        CHECK.due("without requests", x.finish(), 0);
        x.pass(10000);
        CHECK.due("still without requests", x.finish(), 10000);
        x.read(0, 1, 0, 1);
        x.read(0, 2, 0, 16);
        CHECK.due("with two", x.finish(), 10000 + 24 + 12 + 5 + 37);
        CHECK.due("again", x.finish(), 10078);
        CHECK.due("time", x.time(), 10078);
    }

    /** Promise 16: "ticks: 0 to 10000". Promise 16: "Throws IllegalArgumentException if ticks is out of its range". */
    private static void passEdges() {
        RegisterGateway x = Scenes.worn();
        CHECK.range("pass", x, 0, 10000, Scenes.ILLEGAL_ARGUMENT, ticks -> x.pass(ticks));
    }

    /** Promise 16: "Lets time pass." Promise 16: "Returns the time then." */
    private static void passReturnsTheTime() {
        RegisterGateway x = new RegisterGateway();
        CHECK.due("0 ticks", x.pass(0), 0);
        CHECK.due("10000 ticks", x.pass(10000), 10000);
        CHECK.due("1 tick", x.pass(1), 10001);
        CHECK.illegalArgument("refused", x, () -> x.pass(10001));
        CHECK.due("0 ticks again", x.pass(0), 10001);
    }

    /**
     * Promise 16: "Throws IllegalStateException if the time would become greater than 10000000". No 512
     * calls reach this time, so the test makes more of them than are promised to be answered.
     */
    private static void passAtTheLatestTime() {
        RegisterGateway x = new RegisterGateway();
        for (int i = 0; i < 999; i++) {
            x.pass(10000);
        }
        CHECK.due("one before it", x.pass(9999), 9999999);
        CHECK.refused("beyond it", x, Scenes.ILLEGAL_STATE, ticks -> x.pass(ticks), 2, 10000);
        CHECK.refused("beyond it, out of range", x, Scenes.ILLEGAL_ARGUMENT, ticks -> x.pass(ticks), -1, 10001);
        CHECK.due("to it", x.pass(1), 10000000);
        CHECK.illegalState("one more", x, () -> x.pass(1));
        CHECK.due("0 at it", x.pass(0), 10000000);
    }

    /** Promise 17: "Returns the time." */
    private static void timeIsReturned() {
        RegisterGateway x = new RegisterGateway();
        CHECK.due("at first", x.time(), 0);
        x.pass(7);
        CHECK.due("passed", x.time(), 7);
        CHECK.due("asking takes no time", x.time(), 7);
        x.read(0, 1, 0, 1);
        CHECK.due("making a request takes none", x.time(), 7);
        x.feed(1, 1000);
        CHECK.due("the listener's gaps are not of this time", x.time(), 7);
        x.step();
        CHECK.due("a step", x.time(), 7 + 24);
    }

    /** Promise 23: "Throws IndexOutOfBoundsException if what is out of its range". */
    private static void countRefuses() {
        RegisterGateway x = Scenes.worn();
        CHECK.range("count", x, 0, 5, Scenes.OUT_OF_BOUNDS, what -> x.count(what));
    }

    /** Promise 23: "0 frames sent (each attempt counts)". */
    private static void countOfFrames() {
        RegisterGateway x = new RegisterGateway();
        x.set(2, 3);
        for (int i = 0; i < 4; i++) {
            x.fault(1, 1, 0);
        }
        x.read(0, 1, 0, 1);
        x.step();
        counts("four attempts", x, 4, 0, 0, 4, 0, 0);
    }

    /** Promise 23: "1 replies taken". */
    private static void countOfReplies() {
        RegisterGateway x = new RegisterGateway();
        x.read(0, 1, 0, 1);
        x.step();
        counts("a reply", x, 1, 1, 0, 0, 0, 0);
        x.read(0, 1, 32, 1);
        x.step();
        counts("an exception is one too", x, 2, 2, 0, 0, 0, 0);
    }

    /** Promise 23: "2 false replies". */
    private static void countOfFalseReplies() {
        RegisterGateway x = Scenes.late(40);
        x.finish();
        counts("a false reply is taken, too", x, 2, 1, 1, 1, 0, 0);
    }

    /** Promise 23: "3 timeouts (attempts in which no reply was taken)". */
    private static void countOfTimeouts() {
        RegisterGateway x = new RegisterGateway();
        x.fault(1, 2, 0);
        x.read(0, 1, 0, 1);
        x.step();
        counts("the second attempt is none", x, 2, 1, 0, 1, 0, 0);
    }

    /** Promise 23: "4 requests done from the cache". */
    private static void countOfCached() {
        RegisterGateway x = new RegisterGateway();
        x.read(0, 1, 0, 2);
        x.step();
        x.read(0, 1, 0, 1);
        x.read(0, 1, 1, 1);
        x.finish();
        counts("two", x, 1, 1, 0, 0, 2, 0);
    }

    /** Promise 23: "5 requests that were in a group besides the first one". Promise 23: "Returns that number." */
    private static void countOfJoined() {
        RegisterGateway x = new RegisterGateway();
        for (int i = 0; i < 40; i++) {
            x.read(0, 1, 1000, 1);
        }
        x.group();
        counts("not before the step", x, 0, 0, 0, 0, 0, 0);
        x.step();
        counts("39 of 40, though they fail", x, 1, 1, 0, 0, 0, 39);
    }

    /** Promise 23: "Counts something since the beginning." */
    private static void countsNeverBeginAnew() {
        RegisterGateway x = Scenes.late(40);
        x.finish();
        x.set(4, 1);
        x.read(0, 1, 5, 1);
        x.read(0, 1, 8, 1);
        x.read(0, 1, 9, 1);
        x.finish();
        counts("all six", x, 3, 2, 1, 1, 1, 1);
        x.clearCache();
        x.pass(10000);
        x.leastDrain(40);
        x.endFrame();
        x.finish();
        counts("they stay", x, 3, 2, 1, 1, 1, 1);
        x.read(0, 1, 8, 1);
        x.finish();
        counts("they go on", x, 4, 3, 1, 1, 1, 1);
    }

    private static RegisterGateway behindMissed(int drain, int device) {
        RegisterGateway x = new RegisterGateway();
        x.set(2, 0);
        x.set(3, drain);
        x.fault(1, 1, 0);
        x.read(0, 1, 0, 1);
        x.step();
        x.read(0, device, 5, 1);
        return x;
    }

    /**
     * Description, Trying a frame: "Before the first attempt drain ticks pass, if a frame was sent
     * before, to whatever device, and no reply was taken in the latest attempt of all."
     */
    private static void drainBehindAMissedReply() {
        for (int device = 1; device <= 3; device++) {
            RegisterGateway x = behindMissed(20, device);
            CHECK.due("the first frame has no drain", x.time(), 42);
            x.step();
            CHECK.due("device " + device, x.time(), 42 + 20 + 24);
            x.read(0, device, 9, 1);
            x.step();
            CHECK.due("no drain behind a taken reply", x.time(), 86 + 24);
        }
        CHECK.due("a drain of 0", behindMissed(0, 1).finish(), 42 + 24);
    }

    /** Description, Trying a frame: "if a frame was sent before, to whatever device". */
    private static void noDrainBeforeTheFirstFrame() {
        RegisterGateway x = new RegisterGateway();
        x.set(3, 1000);
        x.pass(1);
        x.read(0, 1, 0, 1);
        x.step();
        CHECK.due("no frame was sent before", x.time(), 1 + 24);
    }

    /** Description, Trying a frame: "no reply was taken in the latest attempt of all". */
    private static void drainLooksAtTheLatestAttempt() {
        RegisterGateway x = new RegisterGateway();
        x.set(3, 20);
        x.fault(1, 1, 0);
        x.read(0, 1, 0, 1);
        x.step();
        CHECK.due("no drain between attempts", x.time(), 42 + 24);
        x.read(0, 1, 5, 1);
        x.step();
        CHECK.due("the latest attempt took one", x.time(), 66 + 24);
        x.fault(1, 4, 0);
        x.read(0, 1, 9, 1);
        x.step();
        CHECK.due("busy", x.time(), 90 + 12 + 5 + 5);
        x.read(0, 1, 9, 1);
        x.step();
        CHECK.due("an exception is a taken reply", x.time(), 112 + 24);
    }

    /** Description, Trying a frame: "no reply was taken in the latest attempt of all". */
    private static void cacheAndTimeLeaveTheDrain() {
        RegisterGateway x = new RegisterGateway();
        x.set(2, 0);
        x.set(3, 20);
        x.set(0, 10000);
        x.read(0, 1, 0, 1);
        x.step();
        x.fault(1, 1, 0);
        x.read(0, 1, 5, 1);
        x.step();
        x.read(0, 1, 0, 1);
        x.step();
        x.pass(1000);
        CHECK.due("missed, cached, passed", x.time(), 24 + 42 + 1000);
        x.read(0, 1, 9, 1);
        x.step();
        CHECK.due("there is a drain still", x.time(), 1066 + 20 + 24);
    }

    private static int timeOf(int writes, int delay) {
        RegisterGateway x = new RegisterGateway();
        x.setDevice(1, 0, delay);
        for (int i = 0; i < writes; i++) {
            x.write(0, 1, i, i);
        }
        return x.finish();
    }

    /**
     * Description, Trying a frame: "An attempt takes place as follows: 4 ticks of silence pass, then as
     * many as the frame has bytes; the device gets the frame at this time t, and its reply, if it is not
     * lost, begins to arrive at t + delay (with a fault 3 more) and has arrived after as many ticks as it
     * has bytes."
     */
    private static void timeOfAnAttempt() {
        RegisterGateway x = new RegisterGateway();
        x.setDevice(1, 0, 0);
        x.read(0, 1, 0, 1);
        CHECK.due("the shortest read", x.finish(), 4 + 8 + 7);
        x.read(0, 1, 16, 16);
        CHECK.due("the longest read", x.finish(), 19 + 4 + 8 + 37);
        x.read(0, 1, 32, 1);
        CHECK.due("an exception", x.finish(), 68 + 4 + 8 + 5);
        CHECK.due("one write", timeOf(1, 5), 4 + 8 + 5 + 8);
        CHECK.due("two writes", timeOf(2, 5), 4 + 13 + 5 + 8);
        CHECK.due("eight writes", timeOf(8, 0), 4 + 25 + 8);
    }

    /** A reply that begins at 17 + number is looked at by a second frame, got at 54: whether it is taken. */
    private static void lateOne(int number, boolean isFalse) {
        RegisterGateway x = Scenes.late(number);
        x.finish();
        String name = "late by " + number;
        ended(name + ", first", x, 0, 2, 11, 42);
        ended(name + ", second", x, 1, 1, 0, (isFalse ? 17 + number : 59) + 7);
        CHECK.due(name + ": value", x.value(1, 0), isFalse ? 11 : 55);
        counts(name, x, 2, 1, isFalse ? 1 : 0, 1, 0, 0);
    }

    /**
     * Description, Trying a frame: "of all replies on the line (also those of earlier attempts and
     * frames) that begin to arrive at t or later".
     */
    private static void repliesThatBeginAtT() {
        lateOne(36, false);
        lateOne(37, true);
        lateOne(38, true);
    }

    /** Description, Trying a frame: "those that began to arrive before t are gone, too". */
    private static void earlierRepliesAreGone() {
        for (int number = 26; number <= 36; number++) {
            lateOne(number, false);
        }
    }

    /**
     * Description, Trying a frame: "it looks at them in the order in which they begin to arrive (of
     * several, the one that was sent earlier first)".
     */
    private static void earliestReplyFirst() {
        lateOne(41, true);
        lateOne(42, true);
        lateOne(43, false);
    }

    /** Three reads with the timeout 1 for the first two, got at 12 and 25; the third is got at 38. */
    private static RegisterGateway twoOnTheLine(int firstBegin, int secondBegin) {
        RegisterGateway x = new RegisterGateway();
        x.set(1, 1);
        x.set(2, 0);
        x.set(4, 0);
        x.setDevice(1, 0, 10);
        for (int r = 0; r < 4; r++) {
            x.poke(1, 2 * r, 100 + r);
            x.read(0, 1, 2 * r, 1);
        }
        x.fault(1, 3, firstBegin - 22);
        x.fault(1, 3, secondBegin - 35);
        x.step();
        x.step();
        x.set(1, 30);
        return x;
    }

    /** Description, Trying a frame: "(of several, the one that was sent earlier first)". */
    private static void twoThatBeginAtOnce() {
        RegisterGateway x = twoOnTheLine(45, 45);
        x.step();
        ended("both at 45", x, 2, 1, 0, 45 + 7);
        CHECK.due("the earlier one", x.value(2, 0), 100);
        RegisterGateway y = twoOnTheLine(46, 45);
        y.step();
        ended("the second before the first", y, 2, 1, 0, 45 + 7);
        CHECK.due("the one that begins first", y.value(2, 0), 101);
        RegisterGateway z = twoOnTheLine(48, 48);
        z.step();
        CHECK.due("three at 48", z.value(2, 0), 100);
    }

    /** Description, Trying a frame: "and takes the first one that fits; those that it has looked at are gone". */
    private static void repliesNotLookedAtStay() {
        RegisterGateway x = twoOnTheLine(40, 62);
        x.step();
        ended("took the first's reply", x, 2, 1, 0, 40 + 7);
        x.step();
        ended("took the second's reply", x, 3, 1, 0, 62 + 7);
        CHECK.due("its value", x.value(3, 0), 101);
        counts("two false ones", x, 4, 2, 2, 2, 0, 0);
    }

    /** The second frame, got at 54, has its own reply lost; a reply that begins at 17 + number is there. */
    private static RegisterGateway lateAndLost(int number) {
        RegisterGateway x = Scenes.late(number);
        x.fault(1, 1, 0);
        x.finish();
        return x;
    }

    /** Description, Trying a frame: "and at t + timeout at the latest". */
    private static void repliesThatBeginAtTheTimeout() {
        ended("at 83", lateAndLost(66), 1, 1, 0, 83 + 7);
        ended("at 84", lateAndLost(67), 1, 1, 0, 84 + 7);
        ended("at 85", lateAndLost(68), 1, 2, 11, 84);
        RegisterGateway own = new RegisterGateway();
        own.set(2, 0);
        own.setDevice(1, 0, 30);
        own.read(0, 1, 0, 1);
        own.step();
        ended("its own reply, at 30", own, 0, 1, 0, 12 + 30 + 7);
        own.setDevice(1, 0, 31);
        own.read(0, 1, 5, 1);
        own.step();
        ended("its own reply, at 31", own, 1, 2, 11, 49 + 12 + 30);
    }

    private static int falseOnesInThirdFrame(int number) {
        RegisterGateway x = lateAndLost(number);
        x.read(0, 1, 9, 1);
        x.step();
        return x.count(2);
    }

    /** Description, Trying a frame: "of all replies on the line (also those of earlier attempts and frames)". */
    private static void repliesStayOnTheLine() {
        CHECK.due("behind the second frame, before the third is got at 96", falseOnesInThirdFrame(78), 0);
        CHECK.due("when the third is got", falseOnesInThirdFrame(79), 1);
        CHECK.due("with its own reply", falseOnesInThirdFrame(84), 1);
        CHECK.due("behind its own reply", falseOnesInThirdFrame(85), 0);
    }

    /** Description, Trying a frame: "A reply fits if its checksum is right". */
    private static void damagedReplyDoesNotFit() {
        for (int number = 0; number < 7; number++) {
            RegisterGateway x = new RegisterGateway();
            x.fault(1, 2, number);
            x.read(0, 1, 0, 1);
            x.step();
            ended("damaged at " + number, x, 0, 1, 0, 42 + 24);
            counts("the attempt was repeated", x, 2, 1, 0, 1, 0, 0);
        }
    }

    /**
     * The first frame that the device gets has a reply that begins at 65, if it is got at 12; the next
     * frame to each device, got at 54 to 64, has its own reply 25 later, so that it looks at that of 65 first.
     */
    private static RegisterGateway withLateReply(int device) {
        RegisterGateway x = new RegisterGateway();
        x.set(2, 0);
        x.fault(device, 3, 48);
        for (int d = 1; d <= 3; d++) {
            x.fault(d, 3, 20);
        }
        return x;
    }

    private static RegisterGateway lateRead(int device, int start, int count) {
        RegisterGateway x = withLateReply(device);
        x.read(0, device, start, count);
        x.step();
        return x;
    }

    private static RegisterGateway lateWrite(int register, int value) {
        RegisterGateway x = withLateReply(1);
        x.write(0, 1, register, value);
        x.step();
        return x;
    }

    private static int falseOnes(RegisterGateway x) {
        x.finish();
        CHECK.due("the first timed out, the second took a reply", x.count(3) * 10 + x.count(1), 11);
        return x.count(2);
    }

    /** Description, Trying a frame: "its device is that of the frame". */
    private static void replyOfAnotherDeviceDoesNotFit() {
        for (int device = 1; device <= 3; device++) {
            RegisterGateway x = lateRead(2, 0, 1);
            x.read(0, device, 5, 1);
            CHECK.due("2 and " + device, falseOnes(x), device == 2 ? 1 : 0);
        }
    }

    /** Description, Trying a frame: "and it is an exception for the function of the frame". */
    private static void exceptionForTheFunction() {
        RegisterGateway x = lateRead(1, 32, 1);
        x.read(0, 1, 0, 16);
        CHECK.due("read and read", falseOnes(x), 1);
        ended("an exception has no count", x, 1, 2, 2, 65 + 5);
        RegisterGateway y = lateRead(1, 32, 1);
        y.write(0, 1, 32, 1);
        CHECK.due("read and write one", falseOnes(y), 0);
        RegisterGateway z = lateWrite(32, 1);
        z.write(0, 1, 5, 1);
        CHECK.due("write one and write one", falseOnes(z), 1);
        RegisterGateway w = lateWrite(32, 1);
        w.write(0, 1, 5, 1);
        w.write(0, 1, 6, 1);
        CHECK.due("write one and write many", falseOnes(w), 0);
    }

    /** Description, Trying a frame: "for 3 the number of bytes is 2 * count". */
    private static void replyToAReadHasItsCount() {
        for (int count = 1; count <= 4; count++) {
            RegisterGateway x = lateRead(1, 0, 2);
            x.read(0, 1, 10, count);
            CHECK.due("2 and " + count, falseOnes(x), count == 2 ? 1 : 0);
        }
        RegisterGateway y = lateRead(1, 0, 1);
        y.write(0, 1, 10, 1);
        CHECK.due("read and write", falseOnes(y), 0);
    }

    private static int falseWrites(int register, int value) {
        RegisterGateway x = lateWrite(5, 65535);
        x.write(0, 1, register, value);
        return falseOnes(x);
    }

    /** Description, Trying a frame: "for 6 the register and the value are the same". */
    private static void replyToAWriteHasItsRegisterAndValue() {
        CHECK.due("the same", falseWrites(5, 65535), 1);
        CHECK.due("the next register", falseWrites(6, 65535), 0);
        CHECK.due("the register before", falseWrites(4, 65535), 0);
        CHECK.due("the value in its lower byte", falseWrites(5, 65534), 0);
        CHECK.due("the value in its higher byte", falseWrites(5, 255), 0);
    }

    /** Two frames of many writes each: the first is got at 17, so that its reply begins at 70. */
    private static int falseWriteMany(int start, int count, int value) {
        RegisterGateway x = withLateReply(1);
        x.write(0, 1, 5, 1);
        x.write(0, 1, 6, 1);
        x.step();
        for (int i = 0; i < count; i++) {
            x.write(0, 1, start + i, value);
        }
        int found = falseOnes(x);
        CHECK.due("done", x.request(2, 5), 1);
        CHECK.due("the values of its own frame are cached", x.cached(1, start), value);
        return found;
    }

    /** Description, Trying a frame: "for 16 the start and the count are the same". */
    private static void replyToManyWritesHasItsStartAndCount() {
        CHECK.due("the same", falseWriteMany(5, 2, 1), 1);
        CHECK.due("other values", falseWriteMany(5, 2, 9), 1);
        CHECK.due("another start", falseWriteMany(6, 2, 1), 0);
        CHECK.due("another count", falseWriteMany(5, 3, 1), 0);
        CHECK.due("a count of 1 is another function", falseWriteMany(5, 1, 1), 0);
    }

    /** Description, Trying a frame: "If one is taken, the time becomes that at which it has arrived." */
    private static void timeOfATakenReply() {
        RegisterGateway x = new RegisterGateway();
        x.setDevice(1, 0, 30);
        x.read(0, 1, 0, 16);
        x.step();
        CHECK.due("it may arrive behind the timeout, if it begins in time", x.time(), 12 + 30 + 37);
    }

    /**
     * Description, Trying a frame: "If none is, the time becomes t + timeout, and another attempt is made
     * if there were fewer attempts than 1 plus retries."
     */
    private static void attemptsEnd() {
        for (int retries = 0; retries <= 3; retries++) {
            for (int lost = 0; lost <= 5; lost++) {
                RegisterGateway x = new RegisterGateway();
                x.set(2, retries);
                for (int i = 0; i < lost; i++) {
                    x.fault(1, 1, 0);
                }
                x.read(0, 1, 0, 1);
                x.step();
                boolean fails = lost > retries;
                int missed = Math.min(lost, 1 + retries);
                String name = retries + " retries, " + lost + " lost";
                ended(name, x, 0, fails ? 2 : 1, fails ? 11 : 0, 42 * missed + (fails ? 0 : 24));
                counts(name, x, missed + (fails ? 0 : 1), fails ? 0 : 1, 0, missed, 0, 0);
            }
        }
    }

    /**
     * Description, Trying a frame: "A taken reply is false if it was sent by the device for another frame
     * than the one that was tried (another attempt with the same frame of the same group does not count
     * as another frame)."
     */
    private static void whatIsFalse() {
        RegisterGateway x = Scenes.late(40);
        x.set(2, 1);
        x.step();
        ended("the first attempt's reply in the second", x, 0, 1, 0, 57 + 7);
        counts("it is not false", x, 2, 1, 0, 1, 0, 0);
        RegisterGateway y = new RegisterGateway();
        y.set(2, 0);
        y.set(4, 0);
        y.fault(1, 3, 40);
        y.read(0, 1, 0, 1);
        y.read(0, 1, 0, 1);
        y.finish();
        ended("the same bytes of another group", y, 1, 1, 0, 57 + 7);
        counts("it is false", y, 2, 1, 1, 1, 0, 0);
    }

    /** Description, A step of the gateway: "A step of the gateway takes the first request that is waiting, q." */
    private static void firstWaiting() {
        RegisterGateway x = new RegisterGateway();
        x.read(3, 3, 0, 1);
        x.write(0, 1, 0, 1);
        x.read(1, 2, 0, 1);
        for (int i = 0; i < 3; i++) {
            CHECK.due("request " + i, x.group(), 1 << i);
            x.step();
            CHECK.due("it has ended", x.request(i, 5), 1);
            CHECK.due("the others are waiting", x.requests(0), 2 - i);
        }
    }

    public static void main(String[] args) {
        CHECK.runAll(StepEdgesTest.class);
    }
}
