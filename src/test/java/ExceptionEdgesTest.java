/**
 * The paragraph "Exceptions" and the limit of 512 calls; each remark says which sentence is held.
 * The exceptions of each call alone are in the tests of its promise.
 */
public final class ExceptionEdgesTest {
    private static final Check CHECK = new Check();

    /** One wrong call for each exception that the document lists; Check looks whether a field changed. */
    private static void allRefusedCalls(RegisterGateway x) {
        CHECK.outOfBounds("set", x, () -> x.set(5, 0));
        CHECK.illegalArgument("set", x, () -> x.set(4, 2));
        CHECK.outOfBounds("setDevice", x, () -> x.setDevice(4, 0, 0));
        CHECK.illegalArgument("setDevice", x, () -> x.setDevice(3, 0, 1001));
        CHECK.outOfBounds("poke", x, () -> x.poke(1, 32, 0));
        CHECK.illegalArgument("poke", x, () -> x.poke(1, 31, 65536));
        CHECK.outOfBounds("peek", x, () -> x.peek(0, 0));
        CHECK.outOfBounds("protect", x, () -> x.protect(1, 32, true));
        CHECK.outOfBounds("fault", x, () -> x.fault(0, 1, 0));
        CHECK.illegalArgument("fault", x, () -> x.fault(1, 5, 0));
        CHECK.outOfBounds("read", x, () -> x.read(4, 1, 0, 1));
        CHECK.illegalArgument("read", x, () -> x.read(0, 1, 0, 17));
        CHECK.outOfBounds("write", x, () -> x.write(0, 4, 0, 1));
        CHECK.illegalArgument("write", x, () -> x.write(0, 1, 1001, 1));
        CHECK.outOfBounds("request", x, () -> x.request(0, 9));
        CHECK.outOfBounds("value", x, () -> x.value(-1, 0));
        CHECK.outOfBounds("requests", x, () -> x.requests(3));
        CHECK.outOfBounds("requestsOf", x, () -> x.requestsOf(0, 3));
        CHECK.illegalArgument("pass", x, () -> x.pass(10001));
        CHECK.outOfBounds("frameByte", x, () -> x.frameByte(-1));
        CHECK.outOfBounds("cacheAge", x, () -> x.cacheAge(1, 32));
        CHECK.outOfBounds("cached", x, () -> x.cached(4, 31));
        CHECK.outOfBounds("count", x, () -> x.count(6));
        CHECK.illegalArgument("leastDrain", x, () -> x.leastDrain(41));
        CHECK.illegalArgument("feed", x, () -> x.feed(256, 4));
        CHECK.outOfBounds("verdict", x, () -> x.verdict(-1));
        CHECK.outOfBounds("length", x, () -> x.length(-1));
    }

    private static void sameFromNowOn(String name, RegisterGateway x, RegisterGateway untouched) {
        CHECK.due(name + ": group", x.group(), untouched.group());
        CHECK.due(name + ": checksum", x.checksum(), untouched.checksum());
        CHECK.due(name + ": frames", x.endFrame(), untouched.endFrame());
        CHECK.due(name + ": verdict", x.verdict(0), untouched.verdict(0));
        CHECK.due(name + ": fingerprint", x.fingerprint(), untouched.fingerprint());
        CHECK.due(name + ": finish", x.finish(), untouched.finish());
        CHECK.due(name + ": fingerprint of the end", x.fingerprint(), untouched.fingerprint());
        CHECK.due(name + ": faults", x.fault(3, 1, 0), untouched.fault(3, 1, 0));
    }

    /** Description, Exceptions: "A call that throws an exception changes nothing." */
    private static void refusedCallsChangeNothing() {
        RegisterGateway worn = Scenes.worn();
        allRefusedCalls(worn);
        CHECK.illegalState("value", worn, () -> worn.value(6, 15));
        sameFromNowOn("worn", worn, Scenes.worn());
        RegisterGateway full = Scenes.full();
        allRefusedCalls(full);
        CHECK.illegalState("fault", full, () -> full.fault(1, 1, 0));
        CHECK.illegalState("read", full, () -> full.read(0, 1, 0, 1));
        CHECK.illegalState("write", full, () -> full.write(0, 1, 0, 1));
        sameFromNowOn("full", full, Scenes.full());
    }

    /** Description, Exceptions: "A call that throws an exception changes nothing." The scene must have something of all. */
    private static void wornHasSomethingOfAll() {
        RegisterGateway x = Scenes.worn();
        CHECK.due("waiting, done, failed", x.requests(0) * 100 + x.requests(1) * 10 + x.requests(2), 322);
        CHECK.due("from the cache", x.count(4), 1);
        CHECK.due("cached", x.cached(1, 0), 11);
        CHECK.due("faults of device 1", x.fault(1, 1, 0), 2);
        CHECK.due("heard", x.verdict(0), 3);
        CHECK.due("a broken frame has not ended", x.feed(1, 0), 5);
        CHECK.due("ended", x.endFrame(), 3);
    }

    /** Description, Exceptions: "If several exceptions apply to a call, the one that is listed first is thrown." */
    private static void indexComesFirst() {
        RegisterGateway x = Scenes.full();
        CHECK.outOfBounds("set", x, () -> x.set(-1, -1));
        CHECK.outOfBounds("setDevice: device", x, () -> x.setDevice(0, 0, -1));
        CHECK.outOfBounds("setDevice: property", x, () -> x.setDevice(1, 2, 65536));
        CHECK.outOfBounds("poke: device", x, () -> x.poke(0, 0, -1));
        CHECK.outOfBounds("poke: register", x, () -> x.poke(1, -1, 65536));
        CHECK.outOfBounds("fault", x, () -> x.fault(4, 5, 2001));
        CHECK.outOfBounds("read: client", x, () -> x.read(-1, 1, -1, 0));
        CHECK.outOfBounds("read: device", x, () -> x.read(0, 4, 1001, 17));
        CHECK.outOfBounds("write: client", x, () -> x.write(4, 1, -1, -1));
        CHECK.outOfBounds("write: device", x, () -> x.write(0, 0, 1001, 65536));
        CHECK.outOfBounds("value of a waiting read", x, () -> x.value(39, 16));
    }

    /** Description, Exceptions: "If several exceptions apply to a call, the one that is listed first is thrown." */
    private static void argumentComesBeforeState() {
        RegisterGateway x = Scenes.full();
        CHECK.illegalArgument("fault: kind", x, () -> x.fault(1, 0, 0));
        CHECK.illegalArgument("fault: number", x, () -> x.fault(3, 4, 2001));
        CHECK.illegalArgument("read: start", x, () -> x.read(0, 1, 1001, 1));
        CHECK.illegalArgument("read: count", x, () -> x.read(0, 1, 0, 0));
        CHECK.illegalArgument("write: register", x, () -> x.write(0, 1, -1, 0));
        CHECK.illegalArgument("write: value", x, () -> x.write(0, 1, 0, 65536));
    }

    /**
     * What it is: "An object is used for at most 512 calls after it has been made; what later calls answer
     * is free." So the last of 512 calls is still answered rightly.
     */
    private static void call512() {
        RegisterGateway x = new RegisterGateway();
        for (int call = 1; call <= 511; call++) {
            x.pass(10000);
        }
        CHECK.due("time passed", x.pass(10000), 5120000);
        RegisterGateway y = new RegisterGateway();
        for (int call = 1; call <= 511; call++) {
            y.feed(call & 255, 4);
        }
        CHECK.due("frames", y.endFrame(), 511);
        RegisterGateway z = new RegisterGateway();
        for (int call = 1; call <= 511; call++) {
            z.feed(0, 0);
        }
        CHECK.due("bytes", z.feed(0, 0), 512);
    }

    /**
     * What it is: "An object is used for at most 512 calls after it has been made". These 512
     * come to a great time: 460 times 10000 ticks, and 40 reads with all there is to wait for.
     */
    private static void greatTimeOf512Calls() {
        RegisterGateway x = new RegisterGateway();
        x.set(1, 1000);
        x.set(2, 3);
        x.set(3, 1000);
        x.set(4, 0);
        x.setDevice(1, 0, 1000);
        for (int i = 0; i < 6; i++) {
            x.fault(1, 1, 0);
        }
        for (int i = 0; i < 40; i++) {
            x.read(0, 1, 40, 1);
        }
        for (int i = 0; i < 460; i++) {
            x.pass(10000);
        }
        int first = 4600000 + 4 * 1012;
        int second = first + 1000 + 2 * 1012 + 1012 + 5;
        CHECK.due("finish", x.finish(), second + 38 * 1017);
    }

    public static void main(String[] args) {
        CHECK.runAll(ExceptionEdgesTest.class);
    }
}
