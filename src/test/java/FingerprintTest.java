/** Promise 30: the fingerprint, by numbers reckoned apart and made anew from what the other methods answer. */
public final class FingerprintTest {
    private static final Check CHECK = new Check();

    private static long due(RegisterGateway x, int requests) {
        long print = 73;
        print = 31 * print + x.time();
        for (int what = 0; what < 6; what++) {
            print = 31 * print + x.count(what);
        }
        for (int state = 0; state < 3; state++) {
            print = 31 * print + x.requests(state);
        }
        for (int i = 0; i < requests; i++) {
            for (int what = 5; what <= 7; what++) {
                print = 31 * print + x.request(i, what);
            }
            if (x.request(i, 4) == 0 && x.request(i, 5) == 1) {
                for (int k = 0; k < x.request(i, 3); k++) {
                    print = 31 * print + x.value(i, k);
                }
            }
        }
        for (int d = 1; d <= 3; d++) {
            for (int r = 0; r < 32; r++) {
                print = 31 * print + x.peek(d, r);
                print = 31 * print + x.cached(d, r);
            }
        }
        return print;
    }

    /** Promise 30: "Returns a fingerprint. It starts as 73". */
    private static void ofNothing() {
        CHECK.due("without requests, faults or cached values", new RegisterGateway().fingerprint(), 8924043248130577577L);
    }

    /**
     * Promise 30: "it becomes 31 times itself plus the number, in long arithmetic with overflow". The
     * numbers are a read's of the last register, which holds the greatest value, modulo 2 to the 64th.
     */
    private static void wrapsAround() {
        RegisterGateway x = new RegisterGateway();
        x.poke(3, 31, 65535);
        x.read(0, 3, 31, 1);
        x.step();
        CHECK.due("negative by its overflow", x.fingerprint(), -1233554400150793545L);
    }

    /** Promise 30: "time(); count(0) to count(5); requests(0) to requests(2)". */
    private static void ofTimeAndCounts() {
        RegisterGateway x = Scenes.late(40);
        CHECK.due("waiting", x.fingerprint(), due(x, 2));
        x.finish();
        x.read(0, 1, 5, 1);
        x.read(0, 2, 6, 1);
        x.read(0, 2, 7, 1);
        x.finish();
        for (int what = 0; what < 6; what++) {
            CHECK.due("count(" + what + ") is not 0", x.count(what) > 0, true);
        }
        CHECK.due("all counts", x.fingerprint(), due(x, 5));
        x.pass(1);
        CHECK.due("one tick later", x.fingerprint(), due(x, 5));
    }

    /** Promise 30: "for each request request(i, 5) to request(i, 7), and its values if it is a read that is done". */
    private static void ofRequests() {
        RegisterGateway x = Scenes.worn();
        CHECK.due("reads and writes that are waiting, done and failed", x.fingerprint(), due(x, 7));
        x.finish();
        CHECK.due("none is waiting", x.fingerprint(), due(x, 7));
        RegisterGateway y = Scenes.full();
        CHECK.due("40 that are waiting", y.fingerprint(), due(y, 40));
        y.finish();
        CHECK.due("40 that have ended", y.fingerprint(), due(y, 40));
    }

    /** Promise 30: "for each device and each of its registers peek() and cached()". */
    private static void ofRegisters() {
        for (int device = 1; device <= 3; device++) {
            for (int register = 0; register < 32; register += 31) {
                RegisterGateway x = new RegisterGateway();
                x.poke(device, register, 65535);
                CHECK.due("poked", x.fingerprint(), due(x, 0));
                x.read(0, device, register, 1);
                x.step();
                x.poke(device, register, 1);
                CHECK.due("cached", x.fingerprint(), due(x, 1));
                x.clearCache();
                CHECK.due("not cached any more", x.fingerprint(), due(x, 1));
            }
        }
    }

    /** Promise 30: "for each of the following numbers, in this order". */
    private static void ofNothingElse() {
        RegisterGateway x = Scenes.worn();
        long before = x.fingerprint();
        x.set(3, 9);
        x.setDevice(1, 0, 9);
        x.protect(1, 9, true);
        x.fault(3, 1, 0);
        x.feed(1, 1000);
        CHECK.due("settings, faults and the listener are not in it", x.fingerprint(), before);
    }

    /** Promise 30: "Returns the fingerprint." */
    private static void changesNothing() {
        RegisterGateway x = Scenes.worn();
        String before = Check.state(x);
        CHECK.due("the same again", x.fingerprint(), x.fingerprint());
        CHECK.due("nothing is changed", Check.state(x).equals(before), true);
    }

    public static void main(String[] args) {
        CHECK.runAll(FingerprintTest.class);
    }
}
