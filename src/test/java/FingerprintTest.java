/** Promise 30: the fingerprint, made anew from what the other methods answer. */
public final class FingerprintTest {
    private static final Check CHECK = new Check();

    private static long due(RegisterGateway x, int requests) {
        long print = 73;
        print = 31 * print + x.time();
        for (int what = 0; what < 6; what++) {
            print = 31 * print + x.count(what);
        }
        for (int state = 0; state < 3; state++) {
            print = 31 * print + x.requests(state);
        }
        for (int i = 0; i < requests; i++) {
            for (int what = 5; what <= 7; what++) {
                print = 31 * print + x.request(i, what);
            }
            if (x.request(i, 4) == 0 && x.request(i, 5) == 1) {
                for (int k = 0; k < x.request(i, 3); k++) {
                    print = 31 * print + x.value(i, k);
                }
            }
        }
        for (int d = 1; d <= 3; d++) {
            for (int r = 0; r < 32; r++) {
                print = 31 * print + x.peek(d, r);
                print = 31 * print + x.cached(d, r);
            }
        }
        return print;
    }

    public static void main(String[] args) {
        RegisterGateway x = new RegisterGateway();
        CHECK.due("new", x.fingerprint(), due(x, 0));
        x.poke(1, 0, 5);
        x.poke(3, 31, 65535);
        CHECK.due("poked", x.fingerprint(), due(x, 0));
        x.read(0, 1, 0, 16);
        x.write(1, 2, 7, 1234);
        x.read(2, 3, 31, 1);
        x.read(3, 3, 31, 2);
        CHECK.due("waiting", x.fingerprint(), due(x, 4));
        for (int step = 0; step < 4; step++) {
            x.step();
            CHECK.due("step " + step, x.fingerprint(), due(x, 4));
        }
        CHECK.due("one failed", x.requests(2), 2);
        x.read(0, 1, 2, 3);
        x.step();
        CHECK.due("from the cache", x.count(4), 1);
        CHECK.due("ended", x.fingerprint(), due(x, 5));
        long before = x.fingerprint();
        x.set(3, 9);
        x.feed(1, 1);
        CHECK.due("settings and the listener are not in it", x.fingerprint(), before);
        CHECK.end("FingerprintTest");
    }
}
