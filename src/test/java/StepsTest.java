/** Promises 14 to 17 and 23: steps, time, attempts, faults, late and false replies, and what is counted. */
public final class StepsTest {
    private static final Check CHECK = new Check();

    private static void counts(String name, RegisterGateway x, int... due) {
        for (int what = 0; what < due.length; what++) {
            CHECK.due(name + " count " + what, x.count(what), due[what]);
        }
    }

    private static void ended(String name, RegisterGateway x, int number, int state, int code, int time) {
        CHECK.due(name + " state", x.request(number, 5), state);
        CHECK.due(name + " code", x.request(number, 6), code);
        CHECK.due(name + " time", x.request(number, 7), time);
    }

    private static void timeAndPass() {
        RegisterGateway x = new RegisterGateway();
        CHECK.due("pass 0", x.pass(0), 0);
        CHECK.due("pass 10000", x.pass(10000), 10000);
        CHECK.due("time", x.time(), 10000);
        CHECK.illegalArgument("pass -1", x, () -> x.pass(-1));
        CHECK.illegalArgument("pass 10001", x, () -> x.pass(10001));
        CHECK.illegalArgument("pass greatest", x, () -> x.pass(Integer.MAX_VALUE));
        for (int i = 0; i < 998; i++) {
            x.pass(10000);
        }
        CHECK.due("pass near the end", x.pass(9999), 9999999);
        CHECK.illegalState("pass over the end", x, () -> x.pass(2));
        CHECK.illegalArgument("pass over the end, out of range", x, () -> x.pass(10001));
        CHECK.due("pass to the end", x.pass(1), 10000000);
        CHECK.illegalState("pass behind the end", x, () -> x.pass(1));
        CHECK.due("pass 0 at the end", x.pass(0), 10000000);
    }

    private static void ordinarySteps() {
        RegisterGateway x = new RegisterGateway();
        x.setDevice(1, 0, 0);
        x.read(0, 1, 0, 1);
        x.write(0, 1, 5, 3);
        x.read(0, 1, 31, 2);
        CHECK.due("step", x.step(), 1);
        CHECK.due("a delay of 0", x.time(), 12 + 7);
        CHECK.due("write step", x.step(), 1);
        CHECK.due("time of a write", x.time(), 19 + 12 + 8);
        CHECK.due("exception step", x.step(), 1);
        CHECK.due("time of an exception", x.time(), 39 + 12 + 5);
        ended("no register 32", x, 2, 2, 2, 56);
        CHECK.due("no more steps", x.step(), 0);
        CHECK.due("finish of nothing", x.finish(), 56);
        counts("ordinary", x, 3, 3, 0, 0, 0, 0);
        for (int wrong : new int[] {-1, 6, Integer.MAX_VALUE, Integer.MIN_VALUE}) {
            CHECK.outOfBounds("count", x, () -> x.count(wrong));
        }
    }

    private static void exceptions() {
        RegisterGateway x = new RegisterGateway();
        x.setDevice(1, 1, 100);
        x.protect(1, 2, true);
        x.poke(1, 2, 60000);
        x.write(0, 1, 0, 100);
        x.write(0, 1, 1, 101);
        CHECK.due("joined", x.group(), 3);
        x.finish();
        ended("too great", x, 0, 2, 3, x.time());
        ended("too great", x, 1, 2, 3, x.time());
        CHECK.due("nothing of it is written", x.peek(1, 0), 0);
        x.write(0, 1, 1, 101);
        x.write(0, 1, 2, 5);
        x.finish();
        ended("read only comes before too great", x, 2, 2, 2, x.time());
        CHECK.due("nothing is written", x.peek(1, 1), 0);
        x.read(0, 1, 2, 1);
        x.finish();
        CHECK.due("a read of a read-only register", x.value(4, 0), 60000);
        x.protect(1, 2, false);
        x.write(0, 1, 2, 100);
        x.finish();
        CHECK.due("the greatest value may be written", x.peek(1, 2), 100);
        x.write(0, 1, 1000, 101);
        x.finish();
        CHECK.due("no register comes before too great", x.request(6, 6), 2);
        x.write(0, 1, 31, 1);
        x.write(0, 1, 32, 1);
        x.finish();
        CHECK.due("write many over the end", x.request(7, 6), 2);
        CHECK.due("register 31 is not written", x.peek(1, 31), 0);
    }

    private static void lostReplies() {
        RegisterGateway x = new RegisterGateway();
        x.set(3, 20);
        x.fault(1, 1, 0);
        x.write(0, 1, 4, 44);
        x.step();
        ended("second attempt", x, 0, 1, 0, 12 + 30 + 12 + 5 + 8);
        counts("one lost", x, 2, 1, 0, 1, 0, 0);
        x.set(2, 0);
        x.fault(1, 1, 0);
        x.write(0, 1, 4, 45);
        x.step();
        ended("lost", x, 1, 2, 11, 67 + 12 + 30);
        CHECK.due("writing takes effect", x.peek(1, 4), 45);
        CHECK.due("its cached value is forgotten", x.cached(1, 4), -1);
        counts("two lost", x, 3, 1, 0, 2, 0, 0);
        x.read(0, 2, 0, 1);
        x.step();
        ended("drain, also for another device", x, 2, 1, 0, 109 + 20 + 12 + 5 + 7);
        x.read(0, 2, 8, 1);
        x.step();
        ended("no drain behind a taken reply", x, 3, 1, 0, 153 + 12 + 5 + 7);
        x.set(2, 3);
        for (int i = 0; i < 4; i++) {
            x.fault(3, 1, 0);
        }
        x.read(0, 3, 0, 1);
        x.step();
        ended("four attempts without drain between them", x, 4, 2, 11, 177 + 4 * 42);
        counts("four lost", x, 9, 3, 0, 6, 0, 0);
    }

    private static void damagedReplies() {
        for (int number = 0; number < 16; number++) {
            RegisterGateway x = new RegisterGateway();
            x.set(2, 0);
            x.fault(1, 2, number);
            x.write(0, 1, 3, 7);
            x.step();
            ended("damaged at " + number, x, 0, 2, 11, 42);
            CHECK.due("the write took effect", x.peek(1, 3), 7);
            x.read(0, 1, 3, 1);
            x.step();
            CHECK.due("only one reply was damaged", x.value(1, 0), 7);
        }
        RegisterGateway x = new RegisterGateway();
        x.fault(1, 2, 2000);
        x.read(0, 1, 0, 16);
        x.step();
        ended("repeated", x, 0, 1, 0, 42 + 12 + 5 + 37);
    }

    private static void busyDevice() {
        RegisterGateway x = new RegisterGateway();
        x.write(0, 1, 3, 7);
        x.step();
        x.fault(1, 4, 9);
        x.write(0, 1, 3, 8);
        x.step();
        ended("busy", x, 1, 2, 6, 25 + 12 + 5 + 5);
        CHECK.due("nothing is written", x.peek(1, 3), 7);
        CHECK.due("the cached value is forgotten", x.cached(1, 3), -1);
        x.fault(1, 4, 0);
        x.write(0, 1, 40, 1);
        x.step();
        CHECK.due("busy comes before a wrong register", x.request(2, 6), 6);
        counts("an exception is a taken reply", x, 3, 3, 0, 0, 0, 0);
    }

    private static void waitingTime() {
        RegisterGateway x = new RegisterGateway();
        x.set(2, 0);
        x.setDevice(1, 0, 30);
        x.read(0, 1, 0, 1);
        x.step();
        ended("begins at the timeout's end", x, 0, 1, 0, 12 + 30 + 7);
        x.setDevice(1, 0, 31);
        x.read(0, 1, 8, 1);
        x.step();
        ended("begins one tick too late", x, 1, 2, 11, 49 + 12 + 30);
        x.setDevice(1, 0, 0);
        x.fault(1, 3, 30);
        x.read(0, 1, 8, 1);
        x.step();
        CHECK.due("fault 3 makes the delay greater", x.request(2, 7), 91 + 12 + 30 + 7);
    }

    /** A late reply of the first attempt begins at 57, in the second attempt's time from 54 on. */
    private static RegisterGateway late(int retries, int number) {
        RegisterGateway x = new RegisterGateway();
        x.set(2, retries);
        x.poke(1, 0, 11);
        x.poke(1, 5, 55);
        x.fault(1, 3, number);
        x.read(0, 1, 0, 1);
        return x;
    }

    private static void lateReplyOfSameFrame() {
        RegisterGateway x = late(1, 40);
        x.step();
        ended("late, of the same frame", x, 0, 1, 0, 57 + 7);
        counts("late, of the same frame", x, 2, 1, 0, 1, 0, 0);
        x.read(0, 1, 5, 1);
        x.step();
        CHECK.due("the second reply is gone", x.value(1, 0), 55);
        ended("after it", x, 1, 1, 0, 64 + 12 + 5 + 7);
    }

    private static void falseReply() {
        int[] begins = {36, 37, 40, 42, 43};
        boolean[] isFalse = {false, true, true, true, false};
        for (int i = 0; i < begins.length; i++) {
            RegisterGateway x = late(0, begins[i]);
            x.read(0, 1, 5, 1);
            CHECK.due("first step", x.step(), 1);
            ended("first", x, 0, 2, 11, 42);
            x.step();
            int begin = isFalse[i] ? 17 + begins[i] : 59;
            String name = "late by " + begins[i];
            ended(name, x, 1, 1, 0, begin + 7);
            CHECK.due(name + " value", x.value(1, 0), isFalse[i] ? 11 : 55);
            CHECK.due(name + " cached", x.cached(1, 5), isFalse[i] ? 11 : 55);
            counts(name, x, 2, 1, isFalse[i] ? 1 : 0, 1, 0, 0);
        }
    }

    private static void falseReplyForRegistersThatDoNotExist() {
        RegisterGateway x = new RegisterGateway();
        x.set(2, 0);
        x.poke(1, 0, 11);
        x.poke(1, 1, 12);
        x.fault(1, 3, 40);
        x.read(0, 1, 0, 2);
        x.read(0, 1, 31, 2);
        x.finish();
        CHECK.due("false value", x.value(1, 1), 12);
        CHECK.due("cached where a register exists", x.cached(1, 31), 11);
        counts("false", x, 2, 1, 1, 1, 0, 0);
        x.read(0, 1, 31, 2);
        CHECK.due("register 32 is never fresh", x.frameByte(1), 3);
        CHECK.due("nothing else is cached", x.clearCache(), 1);
    }

    private static void repliesThatDoNotFit() {
        RegisterGateway x = late(0, 40);
        x.read(0, 1, 5, 2);
        x.finish();
        CHECK.due("another count", x.value(1, 0), 55);
        CHECK.due("another count is no false reply", x.count(2), 0);
        RegisterGateway y = late(0, 40);
        y.poke(2, 0, 22);
        y.read(0, 2, 0, 1);
        y.finish();
        CHECK.due("another device", y.value(1, 0), 22);
        CHECK.due("another device is no false reply", y.count(2), 0);
        RegisterGateway z = late(0, 40);
        z.write(0, 1, 0, 1);
        z.finish();
        ended("another function", z, 1, 1, 0, 59 + 8);
        CHECK.due("another function is no false reply", z.count(2), 0);
    }

    private static void falseExceptions() {
        RegisterGateway x = new RegisterGateway();
        x.set(2, 0);
        x.fault(1, 3, 40);
        x.read(0, 1, 32, 1);
        x.read(0, 1, 0, 1);
        x.finish();
        ended("an exception of another read", x, 1, 2, 2, 57 + 5);
        CHECK.due("it is a false reply", x.count(2), 1);
        RegisterGateway y = new RegisterGateway();
        y.set(2, 0);
        y.fault(1, 3, 40);
        y.read(0, 1, 32, 1);
        y.write(0, 1, 0, 1);
        y.finish();
        ended("an exception for another function does not fit", y, 1, 1, 0, 59 + 8);
        CHECK.due("no false reply", y.count(2), 0);
    }

    private static int falseWrites(int firstRegister, int firstValue, int secondRegister, int secondValue, boolean many) {
        RegisterGateway x = new RegisterGateway();
        x.set(2, 0);
        x.fault(1, 3, many ? 44 : 40);
        x.write(0, 1, firstRegister, firstValue);
        if (many) {
            x.write(0, 1, firstRegister + 1, firstValue);
        }
        x.step();
        x.write(0, 1, secondRegister, secondValue);
        if (many) {
            x.write(0, 1, secondRegister + 1, secondValue);
        }
        x.finish();
        CHECK.due("the second write is done", x.request(many ? 2 : 1, 5), 1);
        CHECK.due("what was written is cached", x.cached(1, secondRegister), secondValue);
        return x.count(2);
    }

    private static void falseRepliesToWrites() {
        CHECK.due("same register and value", falseWrites(3, 7, 3, 7, false), 1);
        CHECK.due("another value", falseWrites(3, 7, 3, 8, false), 0);
        CHECK.due("another register", falseWrites(3, 7, 9, 7, false), 0);
        CHECK.due("same start and count", falseWrites(3, 7, 3, 9, true), 1);
        CHECK.due("another start", falseWrites(3, 7, 4, 7, true), 0);
    }

    private static void repliesSeenByAnotherDevicesFrame() {
        RegisterGateway x = late(0, 40);
        x.set(1, 30);
        x.read(0, 2, 0, 1);
        x.fault(2, 1, 0);
        x.step();
        x.step();
        ended("nothing fits", x, 1, 2, 11, 54 + 30);
        x.read(0, 1, 5, 1);
        x.step();
        CHECK.due("the late one is gone", x.value(2, 0), 55);
        counts("gone", x, 3, 1, 0, 2, 0, 0);
    }

    /** Two replies in the time of a third frame: the first one is taken, the second waits on the line. */
    private static void laterOnesStay() {
        RegisterGateway x = new RegisterGateway();
        x.set(1, 1);
        x.set(2, 0);
        x.set(4, 0);
        x.set(0, 0);
        for (int r = 0; r < 4; r++) {
            x.poke(1, 2 * r, 100 + r);
            x.read(0, 1, 2 * r, 1);
        }
        x.fault(1, 3, 25);
        x.fault(1, 3, 34);
        x.step();
        x.step();
        CHECK.due("time", x.time(), 26);
        x.set(1, 30);
        x.step();
        ended("the third took the first's", x, 2, 1, 0, 42 + 7);
        CHECK.due("its value", x.value(2, 0), 100);
        x.step();
        ended("the fourth took the second's", x, 3, 1, 0, 64 + 7);
        CHECK.due("its value", x.value(3, 0), 101);
        CHECK.due("false ones", x.count(2), 2);
    }

    private static void cachedWrites() {
        RegisterGateway x = new RegisterGateway();
        x.write(0, 1, 3, 7);
        x.write(0, 1, 4, 8);
        x.step();
        CHECK.due("time", x.time(), 4 + 13 + 5 + 8);
        CHECK.due("cached 3", x.cached(1, 3), 7);
        CHECK.due("cached 4", x.cached(1, 4), 8);
        CHECK.due("cached when the reply has arrived", x.cacheAge(1, 3), 0);
        x.read(0, 1, 3, 2);
        CHECK.due("read from the cache", x.step(), 1);
        CHECK.due("value", x.value(2, 1), 8);
        counts("cached", x, 1, 1, 0, 0, 1, 1);
        x.setDevice(1, 1, 0);
        x.write(0, 1, 4, 9);
        x.step();
        CHECK.due("a failed write forgets its register", x.cached(1, 4), -1);
        CHECK.due("and no other", x.cached(1, 3), 7);
        x.pass(1000);
        x.fault(1, 4, 0);
        x.read(0, 1, 3, 1);
        x.step();
        CHECK.due("a failed read forgets nothing", x.cached(1, 3), 7);
    }

    private static void finishing() {
        RegisterGateway x = new RegisterGateway();
        for (int i = 0; i < 40; i++) {
            x.read(i % 4, 1 + i % 3, 2 * i % 31, 1);
        }
        int time = x.finish();
        CHECK.due("finish ends all", x.requests(0), 0);
        CHECK.due("all are done", x.requests(1), 40);
        CHECK.due("finish answers the time", x.time(), time);
    }

    public static void main(String[] args) {
        timeAndPass();
        ordinarySteps();
        exceptions();
        lostReplies();
        damagedReplies();
        busyDevice();
        waitingTime();
        lateReplyOfSameFrame();
        falseReply();
        falseReplyForRegistersThatDoNotExist();
        repliesThatDoNotFit();
        falseExceptions();
        falseRepliesToWrites();
        repliesSeenByAnotherDevicesFrame();
        laterOnesStay();
        cachedWrites();
        finishing();
        CHECK.end("StepsTest");
    }
}
