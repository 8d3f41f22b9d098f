/** Promises 20 to 22 and 24: the cache and leastDrain. */
public final class CacheTest {
    private static final Check CHECK = new Check();

    private static void lifetime() {
        RegisterGateway x = new RegisterGateway();
        x.poke(1, 31, 9);
        x.read(0, 1, 30, 2);
        x.step();
        CHECK.due("age at first", x.cacheAge(1, 30), 0);
        CHECK.due("cached", x.cached(1, 31), 9);
        x.poke(1, 31, 10);
        x.pass(50);
        CHECK.due("age", x.cacheAge(1, 31), 50);
        x.read(0, 1, 31, 1);
        CHECK.due("fresh at 50", x.frameByte(0), -1);
        x.pass(1);
        CHECK.due("not fresh at 51", x.frameByte(0), 1);
        CHECK.due("but still cached", x.cached(1, 31), 9);
        x.set(0, 51);
        CHECK.due("fresh with a longer lifetime", x.frameByte(0), -1);
        x.step();
        CHECK.due("the cached value", x.value(1, 0), 9);
        CHECK.due("answering leaves the age", x.cacheAge(1, 31), 51);
        x.set(0, 0);
        x.read(0, 1, 31, 1);
        x.step();
        CHECK.due("the value now", x.value(2, 0), 10);
        CHECK.due("cached anew", x.cacheAge(1, 31), 0);
        CHECK.due("the other is older", x.cacheAge(1, 30), 51 + 12 + 5 + 7);
        x.read(0, 1, 31, 1);
        CHECK.due("fresh with a lifetime of 0", x.step(), 1);
        CHECK.due("answered from the cache", x.count(4), 2);
    }

    private static void partlyCached() {
        RegisterGateway x = new RegisterGateway();
        x.read(0, 1, 0, 3);
        x.step();
        x.read(0, 1, 0, 4);
        x.step();
        CHECK.due("all registers must be cached", x.request(1, 8), 0);
        x.read(0, 2, 0, 3);
        x.step();
        CHECK.due("for this device", x.request(2, 8), 0);
        CHECK.due("how many", x.clearCache(), 7);
        CHECK.due("none any more", x.clearCache(), 0);
        CHECK.due("cached", x.cached(1, 0), -1);
        CHECK.due("age", x.cacheAge(1, 0), -1);
        x.read(0, 1, 0, 1);
        CHECK.due("not from the cache", x.frameByte(0), 1);
    }

    private static void wrongArguments() {
        RegisterGateway x = new RegisterGateway();
        for (int wrong : new int[] {0, 4, -1, Integer.MAX_VALUE, Integer.MIN_VALUE}) {
            CHECK.outOfBounds("cacheAge device", x, () -> x.cacheAge(wrong, 0));
            CHECK.outOfBounds("cached device", x, () -> x.cached(wrong, 0));
        }
        for (int wrong : new int[] {-1, 32, 1000, Integer.MAX_VALUE, Integer.MIN_VALUE}) {
            CHECK.outOfBounds("cacheAge register", x, () -> x.cacheAge(1, wrong));
            CHECK.outOfBounds("cached register", x, () -> x.cached(3, wrong));
        }
        CHECK.due("last", x.cacheAge(3, 31), -1);
        for (int wrong : new int[] {-1, 41, Integer.MAX_VALUE, Integer.MIN_VALUE}) {
            CHECK.illegalArgument("leastDrain", x, () -> x.leastDrain(wrong));
        }
    }

    /** The first read's reply begins at 17 + number; the second frame, without drain, waits from 54 on. */
    private static RegisterGateway late(int number) {
        RegisterGateway x = new RegisterGateway();
        x.set(2, 0);
        x.fault(1, 3, number);
        x.read(0, 1, 0, 1);
        x.read(0, 1, 5, 1);
        return x;
    }

    private static void leastDrain() {
        CHECK.due("without requests", new RegisterGateway().leastDrain(0), 0);
        CHECK.due("nothing is late", late(0).leastDrain(40), 0);
        CHECK.due("gone before 54", late(36).leastDrain(40), 0);
        CHECK.due("begins at 54", late(37).leastDrain(40), 1);
        CHECK.due("begins at 57", late(40).leastDrain(40), 4);
        CHECK.due("4 is enough", late(40).leastDrain(4), 4);
        CHECK.due("3 is not", late(40).leastDrain(3), -1);
        CHECK.due("0 is not", late(40).leastDrain(0), -1);
        CHECK.due("begins with the true one", late(42).leastDrain(40), 6);
        CHECK.due("begins behind the true one", late(43).leastDrain(40), 0);
        RegisterGateway x = late(40);
        x.set(3, 4);
        x.finish();
        CHECK.due("finish with this drain", x.count(2), 0);
        RegisterGateway y = late(40);
        y.set(3, 3);
        y.finish();
        CHECK.due("finish with less", y.count(2), 1);
        CHECK.due("earlier false replies do not matter", y.leastDrain(0), 0);
    }

    /** With a request behind it, others waiting, a fault left and a reply on the line. */
    private static RegisterGateway inTheMidst() {
        RegisterGateway x = late(40);
        x.set(3, 7);
        x.write(0, 2, 3, 9);
        x.fault(2, 1, 0);
        x.step();
        return x;
    }

    private static void nothingIsChanged() {
        RegisterGateway untouched = inTheMidst();
        RegisterGateway x = inTheMidst();
        String before = Check.state(x);
        for (int most = 0; most <= 40; most++) {
            CHECK.due("leastDrain " + most, x.leastDrain(most), most < 4 ? -1 : 4);
            CHECK.due("all is as before", Check.state(x).equals(before), true);
        }
        CHECK.due("the drain stays", x.set(3, 7), 7);
        CHECK.due("finish", x.finish(), untouched.finish());
        CHECK.due("fingerprint", x.fingerprint(), untouched.fingerprint());
    }

    public static void main(String[] args) {
        lifetime();
        partlyCached();
        wrongArguments();
        leastDrain();
        nothingIsChanged();
        CHECK.end("CacheTest");
    }
}
