/**
 * Edges of promises 20 to 22 and 24, of the paragraph "Cache" and of what a step caches; each remark
 * says which sentence is held.
 */
public final class CacheEdgesTest {
    private static final Check CHECK = new Check();

    private static RegisterGateway afterRead(int device, int start, int count) {
        RegisterGateway x = new RegisterGateway();
        for (int r = start; r < start + count; r++) {
            x.poke(device, r, 100 + r);
        }
        x.read(0, device, start, count);
        x.step();
        return x;
    }

    /** Promise 20: "Throws IndexOutOfBoundsException if there is no such device or register". */
    private static void cacheAgeRefuses() {
        RegisterGateway x = Scenes.worn();
        CHECK.range("device", x, 1, 3, Scenes.OUT_OF_BOUNDS, device -> x.cacheAge(device, 0));
        CHECK.range("register", x, 0, 31, Scenes.OUT_OF_BOUNDS, register -> x.cacheAge(3, register));
    }

    /** Promise 20: "device: 1 to 3". Promise 20: "register: 0 to 31". */
    private static void cacheAgeOfEdges() {
        RegisterGateway x = afterRead(1, 0, 1);
        x.read(0, 3, 31, 1);
        x.step();
        CHECK.due("first register of the first device", x.cacheAge(1, 0), 24);
        CHECK.due("last register of the last device", x.cacheAge(3, 31), 0);
        CHECK.due("its neighbour", x.cacheAge(3, 30), -1);
        CHECK.due("another device", x.cacheAge(2, 0), -1);
    }

    /**
     * Promise 20: "Returns the age of a cached value." Promise 20: "Returns the time minus the time at
     * which it was cached; -1 if there is none."
     */
    private static void cacheAgeGrows() {
        RegisterGateway x = new RegisterGateway();
        CHECK.due("none", x.cacheAge(1, 0), -1);
        x.read(0, 1, 0, 1);
        CHECK.due("none before the step", x.cacheAge(1, 0), -1);
        x.step();
        CHECK.due("just cached", x.cacheAge(1, 0), 0);
        x.pass(10000);
        CHECK.due("older than its lifetime, but there", x.cacheAge(1, 0), 10000);
        x.read(0, 1, 0, 1);
        x.step();
        CHECK.due("cached anew", x.cacheAge(1, 0), 0);
        x.clearCache();
        CHECK.due("none any more", x.cacheAge(1, 0), -1);
    }

    /** Promise 21: "Throws IndexOutOfBoundsException if there is no such device or register". */
    private static void cachedRefuses() {
        RegisterGateway x = Scenes.worn();
        CHECK.range("device", x, 1, 3, Scenes.OUT_OF_BOUNDS, device -> x.cached(device, 0));
        CHECK.range("register", x, 0, 31, Scenes.OUT_OF_BOUNDS, register -> x.cached(3, register));
    }

    /** Promise 21: "device: 1 to 3". Promise 21: "register: 0 to 31". */
    private static void cachedOfEdges() {
        for (int device = 1; device <= 3; device++) {
            RegisterGateway x = afterRead(device, 16, 16);
            x.poke(device, 0, 7);
            x.read(0, device, 0, 1);
            x.step();
            for (int d = 1; d <= 3; d++) {
                CHECK.due("first", x.cached(d, 0), d == device ? 7 : -1);
                CHECK.due("second", x.cached(d, 1), -1);
                CHECK.due("before the range", x.cached(d, 15), -1);
                CHECK.due("first of the range", x.cached(d, 16), d == device ? 116 : -1);
                CHECK.due("last", x.cached(d, 31), d == device ? 131 : -1);
            }
        }
    }

    /** Promise 21: "Returns a cached value." Promise 21: "Returns the value; -1 if there is none." */
    private static void cachedValue() {
        RegisterGateway x = new RegisterGateway();
        x.poke(1, 1, 65535);
        CHECK.due("none", x.cached(1, 0), -1);
        x.read(0, 1, 0, 2);
        x.step();
        CHECK.due("0 is a value", x.cached(1, 0), 0);
        CHECK.due("65535 is a value", x.cached(1, 1), 65535);
        x.poke(1, 1, 3);
        x.pass(10000);
        CHECK.due("the value as it was cached, fresh or not", x.cached(1, 1), 65535);
        x.clearCache();
        CHECK.due("none any more", x.cached(1, 1), -1);
    }

    /** Promise 22: "Empties the cache." Promise 22: "Returns how many values were cached." */
    private static void clearCacheCounts() {
        RegisterGateway x = new RegisterGateway();
        CHECK.due("empty", x.clearCache(), 0);
        for (int device = 1; device <= 3; device++) {
            x.read(0, device, 0, 16);
            x.read(0, device, 16, 16);
        }
        x.finish();
        x.pass(10000);
        CHECK.due("full: 3 times 32, fresh or not", x.clearCache(), 96);
        CHECK.due("empty again", x.clearCache(), 0);
        for (int device = 1; device <= 3; device++) {
            CHECK.due("none", x.cached(device, 0) + x.cached(device, 31), -2);
        }
        x.write(0, 3, 31, 0);
        x.step();
        CHECK.due("one, a zero", x.clearCache(), 1);
    }

    /**
     * Description, Cache: "The gateway has, for each register of each device, perhaps a cached value with
     * the time at which it was cached."
     */
    private static void eachRegisterHasItsOwn() {
        RegisterGateway x = new RegisterGateway();
        for (int device = 1; device <= 3; device++) {
            for (int register = 0; register < 32; register += 31) {
                x.poke(device, register, 10 * device + register);
                x.read(0, device, register, 1);
            }
        }
        x.finish();
        for (int device = 1; device <= 3; device++) {
            CHECK.due("value of 0", x.cached(device, 0), 10 * device);
            CHECK.due("value of 31", x.cached(device, 31), 10 * device + 31);
            CHECK.due("age of 0", x.cacheAge(device, 0), 24 * (7 - 2 * device));
            CHECK.due("age of 31", x.cacheAge(device, 31), 24 * (6 - 2 * device));
        }
        CHECK.due("and no other", x.clearCache(), 6);
    }

    /** Description, Cache: "A cached value is fresh if the time minus this time is at most the lifetime." */
    private static void freshness() {
        for (int lifetime : new int[] {0, 1, 50, 10000}) {
            RegisterGateway x = afterRead(1, 0, 1);
            x.set(0, lifetime);
            x.read(0, 1, 0, 1);
            x.pass(lifetime);
            CHECK.due("at the lifetime " + lifetime, x.frameByte(0), -1);
            x.pass(1);
            CHECK.due("behind the lifetime " + lifetime, x.frameByte(0), 1);
            x.step();
            CHECK.due("not from the cache", x.request(1, 8), 0);
            CHECK.due("a frame was sent", x.count(0), 2);
        }
    }

    /**
     * Description, A step of the gateway: "If it is a read and all its registers have fresh cached values,
     * it is done with these values."
     */
    private static void allRegistersMustBeFresh() {
        RegisterGateway x = afterRead(1, 4, 4);
        int[][] ranges = {{4, 4}, {4, 1}, {7, 1}, {3, 5}, {4, 5}, {3, 1}, {8, 1}};
        for (int[] range : ranges) {
            x.read(0, 1, range[0], range[1]);
        }
        x.poke(1, 4, 9);
        x.set(0, 10000);
        for (int i = 1; i <= 3; i++) {
            CHECK.due("one from the cache", x.group(), 1 << i);
            x.step();
            CHECK.due("from the cache", x.request(i, 8), 1);
        }
        CHECK.due("the cached value, not the one of now", x.value(1, 0), 104);
        CHECK.due("the second", x.value(1, 1), 105);
        CHECK.due("the last", x.value(1, 3), 107);
        CHECK.due("the last alone", x.value(3, 0), 107);
        CHECK.due("the first register is missing", x.frameByte(0), 1);
        x.set(4, 0);
        x.step();
        CHECK.due("sent", x.request(4, 8), 0);
        CHECK.due("the last register is missing", x.frameByte(0), 1);
    }

    /** Description, A step of the gateway: "If it is a read and all its registers have fresh cached values". */
    private static void oneRegisterIsTooOld() {
        RegisterGateway x = afterRead(1, 4, 1);
        x.read(0, 1, 5, 1);
        x.step();
        x.read(0, 1, 4, 2);
        x.pass(26);
        CHECK.due("the older one is 50 old", x.cacheAge(1, 4), 50);
        CHECK.due("both are fresh", x.frameByte(0), -1);
        x.pass(1);
        CHECK.due("the older one is not", x.frameByte(0), 1);
        RegisterGateway y = afterRead(1, 31, 1);
        y.read(0, 1, 31, 2);
        CHECK.due("register 32 is never fresh", y.frameByte(0), 1);
        RegisterGateway z = afterRead(1, 31, 1);
        z.write(0, 1, 31, 131);
        CHECK.due("a write is never done from the cache", z.frameByte(1), 6);
    }

    /** Description, A step of the gateway: "No time passes." */
    private static void cacheTakesNoTime() {
        RegisterGateway x = afterRead(1, 0, 16);
        x.set(3, 1000);
        x.fault(1, 1, 0);
        x.read(0, 1, 0, 16);
        CHECK.due("step", x.step(), 1);
        CHECK.due("time", x.time(), 12 + 5 + 37);
        CHECK.due("its time", x.request(1, 7), 54);
        CHECK.due("no fault was used", x.fault(1, 1, 0), 2);
        CHECK.due("its age stays", x.cacheAge(1, 0), 0);
    }

    /**
     * Description, A step of the gateway: "If a reply is taken that is no exception, all requests of the
     * group are done: for reads, each request gets its values from the reply".
     */
    private static void eachGetsItsOwnValues() {
        RegisterGateway x = new RegisterGateway();
        for (int r = 0; r < 32; r++) {
            x.poke(1, r, 100 + r);
        }
        x.read(0, 1, 20, 4);
        x.read(0, 1, 24, 8);
        x.read(0, 1, 16, 4);
        x.read(0, 1, 31, 1);
        CHECK.due("one step", x.step(), 4);
        for (int i = 0; i < 4; i++) {
            CHECK.due("state", x.request(i, 5), 1);
            CHECK.due("time", x.request(i, 7), 12 + 5 + 37);
            for (int k = 0; k < x.request(i, 3); k++) {
                CHECK.due("value " + k + " of " + i, x.value(i, k), 100 + x.request(i, 2) + k);
            }
        }
    }

    /**
     * Description, A step of the gateway: "and the values of the reply become cached values of the
     * registers (of those that exist)". A late reply to a read of 0 and 1 is taken for 31 and 32.
     */
    private static void cachedOfThoseThatExist() {
        RegisterGateway x = new RegisterGateway();
        x.set(2, 0);
        x.poke(1, 0, 11);
        x.poke(1, 1, 12);
        x.fault(1, 3, 40);
        x.read(0, 1, 0, 2);
        x.read(0, 1, 31, 2);
        x.finish();
        CHECK.due("the values are taken", x.value(1, 0) + x.value(1, 1), 23);
        CHECK.due("31 exists", x.cached(1, 31), 11);
        CHECK.due("the next device has nothing of it", x.cached(2, 0), -1);
        CHECK.due("32 does not", x.clearCache(), 1);
    }

    /** Description, A step of the gateway: "for writes, the values that were written become cached values". */
    private static void writtenValuesAreCached() {
        RegisterGateway x = new RegisterGateway();
        x.write(0, 1, 30, 0);
        x.write(0, 1, 31, 65535);
        x.write(0, 1, 30, 5);
        x.step();
        CHECK.due("the latest one", x.cached(1, 30), 5);
        CHECK.due("the greatest value", x.cached(1, 31), 65535);
        CHECK.due("no other", x.clearCache(), 2);
    }

    /**
     * Description, A step of the gateway: "they are cached at the time that it is then, when the reply has
     * arrived".
     */
    private static void cachedWhenTheReplyHasArrived() {
        RegisterGateway x = afterRead(1, 0, 16);
        CHECK.due("read", x.cacheAge(1, 15), 0);
        x.write(0, 1, 20, 5);
        x.step();
        CHECK.due("written", x.cacheAge(1, 20), 0);
        CHECK.due("the read ones are older", x.cacheAge(1, 15), 25);
    }

    /** Description, A step of the gateway: "If an exception is taken, all fail with its code." */
    private static void allFailWithTheCode() {
        RegisterGateway x = new RegisterGateway();
        x.read(0, 1, 30, 2);
        x.read(0, 1, 32, 1);
        x.read(0, 1, 29, 1);
        CHECK.due("one step", x.step(), 3);
        for (int i = 0; i < 3; i++) {
            CHECK.due("state", x.request(i, 5), 2);
            CHECK.due("code", x.request(i, 6), 2);
            CHECK.due("time", x.request(i, 7), 12 + 5 + 5);
        }
        CHECK.due("nothing is cached", x.clearCache(), 0);
    }

    /** Description, A step of the gateway: "If no reply was taken, all fail with the code 11." */
    private static void allFailWithoutAReply() {
        RegisterGateway x = new RegisterGateway();
        x.fault(1, 1, 0);
        x.fault(1, 1, 0);
        x.read(0, 1, 30, 1);
        x.read(0, 1, 31, 1);
        CHECK.due("one step", x.step(), 2);
        for (int i = 0; i < 2; i++) {
            CHECK.due("state", x.request(i, 5), 2);
            CHECK.due("code", x.request(i, 6), 11);
            CHECK.due("time", x.request(i, 7), 84);
        }
        CHECK.due("nothing is cached", x.clearCache(), 0);
    }

    private static RegisterGateway withCached(int first, int last) {
        RegisterGateway x = afterRead(1, first, last - first + 1);
        x.set(2, 0);
        return x;
    }

    private static void forgotten(String name, RegisterGateway x, int code) {
        x.write(0, 1, 29, 101);
        x.write(0, 1, 30, 101);
        x.step();
        CHECK.due(name + ": code", x.request(2, 6), code);
        CHECK.due(name + ": the one before stays", x.cached(1, 28), 128);
        CHECK.due(name + ": first is forgotten", x.cached(1, 29), -1);
        CHECK.due(name + ": last is forgotten", x.cacheAge(1, 30), -1);
        CHECK.due(name + ": the one behind stays", x.cached(1, 31), 131);
    }

    /** Description, A step of the gateway: "When writes fail, the cached values of their registers are forgotten." */
    private static void failedWritesForget() {
        RegisterGateway locked = withCached(28, 31);
        locked.protect(1, 30, true);
        forgotten("readable only", locked, 2);
        RegisterGateway small = withCached(28, 31);
        small.setDevice(1, 1, 100);
        forgotten("too great", small, 3);
        RegisterGateway busy = withCached(28, 31);
        busy.fault(1, 4, 0);
        forgotten("busy", busy, 6);
        RegisterGateway lost = withCached(28, 31);
        lost.fault(1, 1, 0);
        forgotten("lost", lost, 11);
        RegisterGateway far = withCached(31, 31);
        far.write(0, 1, 1000, 1);
        far.write(0, 1, 32, 1);
        far.finish();
        CHECK.due("a register that does not exist has nothing to forget", far.clearCache(), 1);
    }

    /** Description, A step of the gateway: "When writes fail". */
    private static void failedReadsForgetNothing() {
        RegisterGateway x = withCached(28, 31);
        x.pass(51);
        x.fault(1, 4, 0);
        x.read(0, 1, 30, 2);
        x.step();
        CHECK.due("busy", x.request(1, 6), 6);
        CHECK.due("the values stay", x.cached(1, 31), 131);
        CHECK.due("with their time", x.cacheAge(1, 31), 51 + 12 + 5 + 5);
        CHECK.due("all of them", x.clearCache(), 4);
    }

    /** Promise 24: "Throws IllegalArgumentException if most is out of its range". Promise 24: "most: 0 to 40". */
    private static void leastDrainRefuses() {
        RegisterGateway x = Scenes.worn();
        CHECK.range("most", x, 0, 40, Scenes.ILLEGAL_ARGUMENT, most -> x.leastDrain(most));
    }

    /**
     * The first read's reply begins at 17 + number, with the timeout 100; the second frame is got at 124
     * plus the drain, and its own reply begins 55 later.
     */
    private static RegisterGateway longWait(int begin) {
        RegisterGateway x = Scenes.late(begin - 17);
        x.set(1, 100);
        x.fault(1, 3, 50);
        return x;
    }

    /**
     * Promise 24: "Finds the least drain without false replies." Promise 24: "Returns the least drain from 0
     * to most with which finish() would take no false reply (with all else as it is now); -1 if there is
     * none."
     */
    private static void leastDrainEdges() {
        CHECK.due("without requests", new RegisterGateway().leastDrain(0), 0);
        CHECK.due("none is needed", longWait(123).leastDrain(40), 0);
        CHECK.due("1 is needed", longWait(124).leastDrain(40), 1);
        CHECK.due("1 is needed and allowed", longWait(124).leastDrain(1), 1);
        CHECK.due("1 is needed, 0 is allowed", longWait(124).leastDrain(0), -1);
        CHECK.due("39 is needed", longWait(162).leastDrain(40), 39);
        CHECK.due("40 is needed", longWait(163).leastDrain(40), 40);
        CHECK.due("40 is needed, 39 is allowed", longWait(163).leastDrain(39), -1);
        CHECK.due("41 is needed", longWait(164).leastDrain(40), -1);
        CHECK.due("begins with the true one", longWait(179).leastDrain(40), -1);
        CHECK.due("begins behind the true one", longWait(180).leastDrain(40), 0);
    }

    /** Promise 24: "Returns the least drain". */
    private static void leastOfSeveral() {
        RegisterGateway x = longWait(180);
        CHECK.due("0 will do", x.leastDrain(40), 0);
        x.set(3, 1);
        x.finish();
        CHECK.due("though 1 would not", x.count(2), 1);
    }

    /** Promise 24: "with which finish() would take no false reply". */
    private static void leastDrainIsWhatFinishNeeds() {
        for (int drain = 0; drain <= 3; drain++) {
            RegisterGateway x = longWait(126);
            x.set(3, drain);
            CHECK.due("3 is needed, whatever the drain is", x.leastDrain(40), 3);
            x.finish();
            CHECK.due("finish with " + drain, x.count(2), drain == 3 ? 0 : 1);
            CHECK.due("earlier false replies do not matter", x.leastDrain(0), 0);
        }
    }

    /** Promise 24: "(with all else as it is now)". */
    private static void leastDrainFromNowOn() {
        RegisterGateway x = longWait(163);
        x.step();
        CHECK.due("in the midst", x.leastDrain(40), 40);
        x.pass(39);
        CHECK.due("39 ticks later", x.leastDrain(40), 1);
        x.pass(1);
        CHECK.due("40 ticks later", x.leastDrain(40), 0);
        RegisterGateway y = longWait(163);
        CHECK.due("before", y.leastDrain(40), 40);
        y.set(1, 1000);
        CHECK.due("with a longer timeout", y.leastDrain(40), 0);
        y.set(1, 100);
        CHECK.due("as before", y.leastDrain(40), 40);
        y.set(4, 1);
        y.read(0, 2, 0, 1);
        CHECK.due("with one request more", y.leastDrain(40), 40);
    }

    /** Promise 24: "(with all else as it is now)". The second read is sent only if the cache does not answer it. */
    private static void leastDrainKnowsTheCache() {
        RegisterGateway x = new RegisterGateway();
        x.set(2, 0);
        x.pass(1000);
        x.read(0, 1, 5, 1);
        x.step();
        x.fault(1, 3, 40);
        x.read(0, 1, 0, 1);
        x.read(0, 1, 5, 1);
        x.set(0, 42);
        CHECK.due("fresh when the first has failed", x.leastDrain(40), 0);
        x.set(0, 41);
        CHECK.due("one tick too old then", x.leastDrain(40), 4);
        x.set(0, 42);
        x.clearCache();
        CHECK.due("not cached", x.leastDrain(40), 4);
    }

    private static RegisterGateway twoWrites(int firstRegister, int firstValue, int secondRegister) {
        RegisterGateway x = new RegisterGateway();
        x.set(2, 0);
        x.set(4, 0);
        x.fault(1, 3, 40);
        x.write(0, 1, firstRegister, firstValue);
        x.write(0, 1, secondRegister, 1);
        return x;
    }

    /** Promise 24: "(with all else as it is now)". */
    private static void leastDrainKnowsTheDevices() {
        RegisterGateway slow = new RegisterGateway();
        slow.set(2, 0);
        slow.setDevice(1, 0, 45);
        slow.read(0, 1, 0, 1);
        slow.read(0, 1, 5, 1);
        CHECK.due("a slow device", slow.leastDrain(40), 4);
        CHECK.due("two writes that differ", twoWrites(5, 101, 9).leastDrain(40), 0);
        RegisterGateway small = twoWrites(5, 101, 9);
        small.setDevice(1, 1, 100);
        CHECK.due("an exception 3 fits both", small.leastDrain(40), 4);
        RegisterGateway locked = twoWrites(5, 101, 9);
        locked.protect(1, 5, true);
        CHECK.due("an exception 2 fits both", locked.leastDrain(40), 4);
    }

    /** Promise 24: "(with all else as it is now)". */
    private static void leastDrainKnowsTheWrites() {
        CHECK.due("the same register and value", twoWrites(5, 1, 5).leastDrain(40), 4);
        CHECK.due("another value", twoWrites(5, 2, 5).leastDrain(40), 0);
        CHECK.due("another register", twoWrites(6, 1, 5).leastDrain(40), 0);
    }

    /** Promise 24: "with which finish() would take no false reply". The fortieth step is the one that takes it. */
    private static void leastDrainOfFortySteps() {
        RegisterGateway x = new RegisterGateway();
        x.set(2, 0);
        x.set(4, 0);
        x.fault(2, 3, 40);
        for (int i = 0; i < 38; i++) {
            x.read(0, 1, i % 32, 1);
        }
        x.read(0, 2, 0, 1);
        x.read(0, 2, 5, 1);
        CHECK.due("4 is needed", x.leastDrain(40), 4);
        CHECK.due("3 is not enough", x.leastDrain(3), -1);
        x.finish();
        CHECK.due("finish with 0", x.count(2), 1);
    }

    /** Promise 24: "Nothing is changed." */
    private static void leastDrainChangesNothing() {
        RegisterGateway x = Scenes.worn();
        RegisterGateway untouched = Scenes.worn();
        String before = Check.state(x);
        for (int most = 0; most <= 40; most++) {
            x.leastDrain(most);
            CHECK.due("all is as before", Check.state(x).equals(before), true);
        }
        CHECK.due("the drain", x.set(3, 7), 7);
        CHECK.due("finish", x.finish(), untouched.finish());
        CHECK.due("fingerprint", x.fingerprint(), untouched.fingerprint());
        RegisterGateway full = Scenes.full();
        RegisterGateway fullUntouched = Scenes.full();
        full.leastDrain(40);
        full.leastDrain(0);
        CHECK.due("finish of 40", full.finish(), fullUntouched.finish());
        CHECK.due("fingerprint of 40", full.fingerprint(), fullUntouched.fingerprint());
    }

    public static void main(String[] args) {
        CHECK.runAll(CacheEdgesTest.class);
    }
}
