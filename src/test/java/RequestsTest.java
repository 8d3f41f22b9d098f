/** Promises 8 to 13: making requests and asking about them. */
public final class RequestsTest {
    private static final Check CHECK = new Check();
    private static final int[] NO_DEVICE = {0, 4, -1, Integer.MAX_VALUE, Integer.MIN_VALUE};
    private static final int[] NO_CLIENT = {-1, 4, Integer.MAX_VALUE, Integer.MIN_VALUE};

    private static void facts(String name, RegisterGateway x, int number, int... due) {
        for (int what = 0; what < due.length; what++) {
            CHECK.due(name + " request " + number + " " + what, x.request(number, what), due[what]);
        }
    }

    private static void reads() {
        RegisterGateway x = new RegisterGateway();
        CHECK.due("read", x.read(0, 1, 0, 1), 0);
        CHECK.due("read at the edges", x.read(3, 3, 1000, 16), 1);
        facts("read", x, 0, 0, 1, 0, 1, 0, 0, 0, -1, 0);
        facts("read at the edges", x, 1, 3, 3, 1000, 16, 0, 0, 0, -1, 0);
        CHECK.illegalArgument("start -1", x, () -> x.read(0, 1, -1, 1));
        CHECK.illegalArgument("start 1001", x, () -> x.read(0, 1, 1001, 1));
        CHECK.illegalArgument("start far", x, () -> x.read(0, 1, Integer.MAX_VALUE, 1));
        CHECK.illegalArgument("count 0", x, () -> x.read(0, 1, 0, 0));
        CHECK.illegalArgument("count 17", x, () -> x.read(0, 1, 0, 17));
        CHECK.illegalArgument("count negative", x, () -> x.read(0, 1, 0, Integer.MIN_VALUE));
        for (int wrong : NO_DEVICE) {
            CHECK.outOfBounds("device", x, () -> x.read(0, wrong, 0, 1));
            CHECK.outOfBounds("device and start", x, () -> x.read(0, wrong, -1, 1));
        }
        for (int wrong : NO_CLIENT) {
            CHECK.outOfBounds("client", x, () -> x.read(wrong, 1, 0, 1));
            CHECK.outOfBounds("client and count", x, () -> x.read(wrong, 1, 0, 17));
        }
    }

    private static void writes() {
        RegisterGateway x = new RegisterGateway();
        CHECK.due("write", x.write(0, 1, 0, 0), 0);
        CHECK.due("write at the edges", x.write(3, 3, 1000, 65535), 1);
        facts("write", x, 0, 0, 1, 0, 1, 1, 0, 0, -1, 0);
        facts("write at the edges", x, 1, 3, 3, 1000, 1, 1, 0, 0, -1, 0);
        CHECK.illegalArgument("register -1", x, () -> x.write(0, 1, -1, 0));
        CHECK.illegalArgument("register 1001", x, () -> x.write(0, 1, 1001, 0));
        CHECK.illegalArgument("value -1", x, () -> x.write(0, 1, 0, -1));
        CHECK.illegalArgument("value 65536", x, () -> x.write(0, 1, 0, 65536));
        for (int wrong : NO_DEVICE) {
            CHECK.outOfBounds("device", x, () -> x.write(0, wrong, 0, 0));
            CHECK.outOfBounds("device and value", x, () -> x.write(0, wrong, 0, -1));
        }
        for (int wrong : NO_CLIENT) {
            CHECK.outOfBounds("client", x, () -> x.write(wrong, 1, 0, 0));
            CHECK.outOfBounds("client and register", x, () -> x.write(wrong, 1, 1001, 0));
        }
    }

    private static void fortyRequests() {
        RegisterGateway x = new RegisterGateway();
        for (int i = 0; i < 40; i++) {
            CHECK.due("request " + i, i % 2 == 0 ? x.read(i % 4, 1, i, 1) : x.write(i % 4, 1, i, i), i);
        }
        CHECK.illegalState("read 40", x, () -> x.read(0, 1, 0, 1));
        CHECK.illegalState("write 40", x, () -> x.write(0, 1, 0, 1));
        CHECK.illegalArgument("read 40, wrong count", x, () -> x.read(0, 1, 0, 0));
        CHECK.illegalArgument("write 40, wrong value", x, () -> x.write(0, 1, 0, -1));
        CHECK.outOfBounds("read 40, wrong device", x, () -> x.read(0, 0, 0, 0));
        CHECK.outOfBounds("write 40, wrong client", x, () -> x.write(4, 1, 0, -1));
        x.finish();
        CHECK.due("none waits", x.requests(0), 0);
        CHECK.due("those of registers 0 to 31", x.requests(1), 32);
        CHECK.due("those of no register", x.requests(2), 8);
        CHECK.illegalState("ended ones count too", x, () -> x.read(0, 1, 0, 1));
        CHECK.due("request 39", x.request(39, 2), 39);
        CHECK.outOfBounds("request 40", x, () -> x.request(40, 0));
    }

    private static void wrongNumbers() {
        RegisterGateway x = new RegisterGateway();
        CHECK.outOfBounds("no request yet", x, () -> x.request(0, 0));
        CHECK.outOfBounds("no value yet", x, () -> x.value(0, 0));
        x.read(1, 2, 3, 4);
        for (int wrong : new int[] {-1, 1, 40, Integer.MAX_VALUE, Integer.MIN_VALUE}) {
            CHECK.outOfBounds("request", x, () -> x.request(wrong, 0));
            CHECK.outOfBounds("value of no request", x, () -> x.value(wrong, 0));
        }
        for (int wrong : new int[] {-1, 9, Integer.MAX_VALUE, Integer.MIN_VALUE}) {
            CHECK.outOfBounds("what", x, () -> x.request(0, wrong));
        }
        for (int wrong : new int[] {-1, 3, Integer.MAX_VALUE, Integer.MIN_VALUE}) {
            CHECK.outOfBounds("state", x, () -> x.requests(wrong));
            CHECK.outOfBounds("state of a client", x, () -> x.requestsOf(0, wrong));
        }
        for (int wrong : NO_CLIENT) {
            CHECK.outOfBounds("requests of no client", x, () -> x.requestsOf(wrong, 0));
        }
    }

    private static void endedRequests() {
        RegisterGateway x = new RegisterGateway();
        x.poke(2, 3, 500);
        x.poke(2, 6, 65535);
        x.read(1, 2, 3, 4);
        CHECK.illegalState("value while waiting", x, () -> x.value(0, 0));
        CHECK.outOfBounds("k 4 while waiting", x, () -> x.value(0, 4));
        x.step();
        facts("done read", x, 0, 1, 2, 3, 4, 0, 1, 0, 12 + 5 + 13, 0);
        CHECK.due("value 0", x.value(0, 0), 500);
        CHECK.due("value 1", x.value(0, 1), 0);
        CHECK.due("value 3", x.value(0, 3), 65535);
        CHECK.outOfBounds("value 4", x, () -> x.value(0, 4));
        CHECK.outOfBounds("value -1", x, () -> x.value(0, -1));
        x.write(2, 2, 3, 9);
        x.step();
        facts("done write", x, 1, 2, 2, 3, 1, 1, 1, 0, 30 + 12 + 5 + 8, 0);
        CHECK.illegalState("value of a write", x, () -> x.value(1, 0));
        CHECK.outOfBounds("value 1 of a write", x, () -> x.value(1, 1));
        x.read(3, 2, 40, 2);
        x.step();
        facts("failed read", x, 2, 3, 2, 40, 2, 0, 2, 2, 55 + 12 + 5 + 5, 0);
        CHECK.illegalState("value of a failed read", x, () -> x.value(2, 1));
        CHECK.outOfBounds("value 2 of a failed read", x, () -> x.value(2, 2));
        x.read(3, 2, 3, 1);
        x.step();
        facts("read from the cache", x, 3, 3, 2, 3, 1, 0, 1, 0, 77, 1);
        CHECK.due("cached value", x.value(3, 0), 9);
        x.read(3, 1, 0, 1);
        int[] states = {1, 3, 1};
        int[] ofThree = {1, 1, 1};
        for (int state = 0; state < 3; state++) {
            CHECK.due("requests " + state, x.requests(state), states[state]);
            CHECK.due("requests of 3 " + state, x.requestsOf(3, state), ofThree[state]);
            CHECK.due("requests of 0 " + state, x.requestsOf(0, state), 0);
            CHECK.due("requests of 1 " + state, x.requestsOf(1, state), state == 1 ? 1 : 0);
        }
    }

    public static void main(String[] args) {
        reads();
        writes();
        fortyRequests();
        wrongNumbers();
        endedRequests();
        CHECK.end("RequestsTest");
    }
}
