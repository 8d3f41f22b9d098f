/** Edges of promises 8 to 13 and of the paragraph "Requests"; each remark says which sentence is held. */
public final class RequestEdgesTest {
    private static final Check CHECK = new Check();

    private static void facts(String name, RegisterGateway x, int request, int... due) {
        for (int what = 0; what < due.length; what++) {
            CHECK.due(name + ": request(" + request + ", " + what + ")", x.request(request, what), due[what]);
        }
    }

    /** Promise 8: "Throws IndexOutOfBoundsException if there is no such client or device". */
    private static void readRefusesClientsAndDevices() {
        RegisterGateway x = Scenes.worn();
        CHECK.range("client", x, 0, 3, Scenes.OUT_OF_BOUNDS, client -> x.read(client, 1, 0, 1));
        CHECK.range("device", x, 1, 3, Scenes.OUT_OF_BOUNDS, device -> x.read(0, device, 0, 1));
        CHECK.refused("client and start", x, Scenes.OUT_OF_BOUNDS, client -> x.read(client, 1, -1, 1), -1, 4);
        CHECK.refused("device and count", x, Scenes.OUT_OF_BOUNDS, device -> x.read(0, device, 0, 17), 0, 4);
    }

    /** Promise 8: "client: 0 to 3". Promise 8: "device: 1 to 3". */
    private static void readKeepsClientAndDevice() {
        RegisterGateway x = new RegisterGateway();
        x.read(0, 1, 0, 1);
        x.read(3, 3, 0, 1);
        facts("least", x, 0, 0, 1);
        facts("greatest", x, 1, 3, 3);
    }

    /** Promise 8: "start: 0 or more". */
    private static void readStartEdges() {
        RegisterGateway x = Scenes.worn();
        CHECK.range("start", x, 0, 1000, Scenes.ILLEGAL_ARGUMENT, start -> x.read(0, 1, start, 1));
        facts("start 0", x, 7, 0, 1, 0, 1, 0, 0, 0, -1, 0);
        facts("start 1000", x, 8, 0, 1, 1000, 1, 0, 0, 0, -1, 0);
    }

    /** Promise 8: "count: 1 to 16". */
    private static void readCountEdges() {
        RegisterGateway x = Scenes.worn();
        CHECK.range("count", x, 1, 16, Scenes.ILLEGAL_ARGUMENT, count -> x.read(3, 3, 1000, count));
        facts("count 1", x, 7, 3, 3, 1000, 1, 0, 0, 0, -1, 0);
        facts("count 16", x, 8, 3, 3, 1000, 16, 0, 0, 0, -1, 0);
    }

    /**
     * Promise 8: "Throws IllegalArgumentException if start is greater than 1000 or negative, or count is
     * out of its range".
     */
    private static void readRefusesStartsAndCounts() {
        RegisterGateway x = Scenes.full();
        CHECK.refused("start, with 40 requests", x, Scenes.ILLEGAL_ARGUMENT, s -> x.read(0, 1, s, 1), -1, 1001);
        CHECK.refused("count, with 40 requests", x, Scenes.ILLEGAL_ARGUMENT, c -> x.read(0, 1, 0, c), 0, 17, -1);
    }

    /** Promise 8: "Throws IllegalStateException if there are 40 requests". */
    private static void read41() {
        RegisterGateway x = new RegisterGateway();
        for (int i = 0; i < 39; i++) {
            x.read(0, 1, i, 1);
        }
        CHECK.due("the fortieth", x.read(0, 1, 0, 1), 39);
        CHECK.illegalState("one more", x, () -> x.read(0, 1, 0, 1));
        x.finish();
        CHECK.illegalState("one more, when none is waiting", x, () -> x.read(0, 1, 0, 1));
        CHECK.outOfBounds("with a wrong client", x, () -> x.read(4, 1, 0, 1));
        CHECK.outOfBounds("with a wrong device", x, () -> x.read(0, 0, 0, 1));
    }

    /** Promise 8: "Makes a read request." Promise 8: "Returns the number of the request." */
    private static void readReturnsItsNumber() {
        RegisterGateway x = new RegisterGateway();
        CHECK.due("first", x.read(0, 1, 0, 1), 0);
        CHECK.illegalArgument("refused", x, () -> x.read(0, 1, 0, 0));
        CHECK.due("second", x.read(0, 1, 0, 1), 1);
        x.finish();
        CHECK.due("third", x.read(0, 1, 0, 1), 2);
    }

    /** Promise 9: "Throws IndexOutOfBoundsException if there is no such client or device". */
    private static void writeRefusesClientsAndDevices() {
        RegisterGateway x = Scenes.worn();
        CHECK.range("client", x, 0, 3, Scenes.OUT_OF_BOUNDS, client -> x.write(client, 1, 0, 1));
        CHECK.range("device", x, 1, 3, Scenes.OUT_OF_BOUNDS, device -> x.write(0, device, 0, 1));
        CHECK.refused("client and register", x, Scenes.OUT_OF_BOUNDS, c -> x.write(c, 1, 1001, 1), -1, 4);
        CHECK.refused("device and value", x, Scenes.OUT_OF_BOUNDS, d -> x.write(0, d, 0, 65536), 0, 4);
    }

    /** Promise 9: "client: 0 to 3". Promise 9: "device: 1 to 3". */
    private static void writeKeepsClientAndDevice() {
        RegisterGateway x = new RegisterGateway();
        x.write(0, 1, 0, 1);
        x.write(3, 3, 0, 1);
        facts("least", x, 0, 0, 1);
        facts("greatest", x, 1, 3, 3);
    }

    /** Promise 9: "register: 0 to 1000". */
    private static void writtenRegisterEdges() {
        RegisterGateway x = Scenes.worn();
        CHECK.range("register", x, 0, 1000, Scenes.ILLEGAL_ARGUMENT, register -> x.write(0, 1, register, 1));
        facts("register 0", x, 7, 0, 1, 0, 1, 1, 0, 0, -1, 0);
        facts("register 1000", x, 8, 0, 1, 1000, 1, 1, 0, 0, -1, 0);
    }

    /** Promise 9: "value: 0 to 65535". */
    private static void writtenValueEdges() {
        RegisterGateway x = Scenes.worn();
        CHECK.range("value", x, 0, 65535, Scenes.ILLEGAL_ARGUMENT, value -> x.write(0, 3, 20, value));
        RegisterGateway y = new RegisterGateway();
        y.poke(1, 0, 7);
        y.write(0, 1, 0, 0);
        y.step();
        CHECK.due("0 is written", y.peek(1, 0), 0);
        CHECK.due("0 is cached", y.cached(1, 0), 0);
        y.write(0, 1, 0, 65535);
        y.step();
        CHECK.due("65535 is written", y.peek(1, 0), 65535);
        CHECK.due("65535 is cached", y.cached(1, 0), 65535);
    }

    /** Promise 9: "Throws IllegalArgumentException if register or value is out of its range". */
    private static void writeRefusesRegistersAndValues() {
        RegisterGateway x = Scenes.full();
        CHECK.refused("register, with 40 requests", x, Scenes.ILLEGAL_ARGUMENT, r -> x.write(0, 1, r, 1), -1, 1001);
        CHECK.refused("value, with 40 requests", x, Scenes.ILLEGAL_ARGUMENT, v -> x.write(0, 1, 0, v), -1, 65536);
    }

    /** Promise 9: "Throws IllegalStateException if there are 40 requests". */
    private static void write41() {
        RegisterGateway x = new RegisterGateway();
        for (int i = 0; i < 39; i++) {
            x.write(0, 1, i, 1);
        }
        CHECK.due("the fortieth", x.write(0, 1, 0, 1), 39);
        CHECK.illegalState("one more", x, () -> x.write(0, 1, 0, 1));
        x.finish();
        CHECK.illegalState("one more, when none is waiting", x, () -> x.write(0, 1, 0, 1));
        CHECK.outOfBounds("with a wrong client", x, () -> x.write(4, 1, 0, 1));
        CHECK.outOfBounds("with a wrong device", x, () -> x.write(0, 0, 0, 1));
    }

    /** Promise 9: "Makes a write request." Promise 9: "Returns the number of the request." */
    private static void writeReturnsItsNumber() {
        RegisterGateway x = new RegisterGateway();
        CHECK.due("first", x.write(0, 1, 0, 1), 0);
        CHECK.illegalArgument("refused", x, () -> x.write(0, 1, 0, -1));
        CHECK.due("reads and writes are numbered together", x.read(0, 1, 0, 1), 1);
        CHECK.due("third", x.write(0, 1, 0, 1), 2);
    }

    /** Promise 10: "Throws IndexOutOfBoundsException if there is no such request, or what is out of its range". */
    private static void requestRefusesNumbers() {
        RegisterGateway empty = new RegisterGateway();
        CHECK.refused("no requests", empty, Scenes.OUT_OF_BOUNDS, i -> empty.request(i, 0), -1, 0, 1);
        RegisterGateway x = Scenes.worn();
        CHECK.range("request", x, 0, 6, Scenes.OUT_OF_BOUNDS, request -> x.request(request, 0));
        CHECK.range("what", x, 0, 8, Scenes.OUT_OF_BOUNDS, what -> x.request(6, what));
        RegisterGateway y = Scenes.full();
        CHECK.range("request of 40", y, 0, 39, Scenes.OUT_OF_BOUNDS, request -> y.request(request, 8));
    }

    /** Promise 10: "Returns something about a request." Promise 10: "request: its number". */
    private static void requestMeansItsNumber() {
        RegisterGateway x = Scenes.full();
        for (int i = 0; i < 40; i++) {
            facts("full", x, i, i % 4, 1 + i % 3, i % 16, 16, 0, 0, 0, -1, 0);
        }
    }

    /**
     * Promise 10: "what: 0 its client, 1 its device, 2 its start, 3 its count (1 for a write), 4 1 if it
     * is a write, else 0, 5 its state, 6 its code (0 if it has not failed), 7 the time at which it was
     * done or failed (-1 if it is waiting), 8 1 if it was done from the cache, else 0". Promise 10:
     * "Returns that number."
     */
    private static void allThatRequestTells() {
        RegisterGateway x = Scenes.worn();
        facts("done read", x, 0, 0, 1, 0, 2, 0, 1, 0, 12 + 5 + 9, 0);
        facts("failed write", x, 1, 1, 2, 7, 1, 1, 2, 2, 26 + 12 + 5 + 5, 0);
        facts("read done from the cache", x, 2, 2, 1, 1, 1, 0, 1, 0, 48, 1);
        facts("read without a reply", x, 3, 3, 1, 8, 1, 0, 2, 11, 48 + 42, 0);
        facts("waiting write", x, 4, 0, 1, 9, 1, 1, 0, 0, -1, 0);
        facts("waiting read", x, 6, 2, 3, 0, 16, 0, 0, 0, -1, 0);
        RegisterGateway y = new RegisterGateway();
        y.write(3, 3, 31, 9);
        y.step();
        facts("done write", y, 0, 3, 3, 31, 1, 1, 1, 0, 12 + 5 + 8, 0);
    }

    /** Promise 10: "7 the time at which it was done or failed (-1 if it is waiting)". */
    private static void timeOfItsEnd() {
        RegisterGateway x = new RegisterGateway();
        x.read(0, 1, 0, 1);
        CHECK.due("waiting", x.request(0, 7), -1);
        x.pass(9);
        CHECK.due("still waiting", x.request(0, 7), -1);
        x.step();
        CHECK.due("done", x.request(0, 7), 33);
        x.pass(9);
        CHECK.due("the time then, not now", x.request(0, 7), 33);
    }

    /** Promise 11: "Throws IndexOutOfBoundsException if there is no such request, or k is out of its range". */
    private static void valueRefusesNumbers() {
        RegisterGateway empty = new RegisterGateway();
        CHECK.refused("no requests", empty, Scenes.OUT_OF_BOUNDS, i -> empty.value(i, 0), -1, 0, 1);
        RegisterGateway x = Scenes.worn();
        CHECK.refused("request", x, Scenes.OUT_OF_BOUNDS, i -> x.value(i, 0), -1, 7, 40);
        CHECK.range("k of a read of 2", x, 0, 1, Scenes.OUT_OF_BOUNDS, k -> x.value(0, k));
        CHECK.range("k of a read of 1", x, 0, 0, Scenes.OUT_OF_BOUNDS, k -> x.value(2, k));
        CHECK.refused("k of a write that failed", x, Scenes.OUT_OF_BOUNDS, k -> x.value(1, k), -1, 1);
        CHECK.refused("k of a read that failed", x, Scenes.OUT_OF_BOUNDS, k -> x.value(3, k), -1, 1);
        CHECK.refused("k of a read that is waiting", x, Scenes.OUT_OF_BOUNDS, k -> x.value(6, k), -1, 16);
    }

    /** Promise 11: "request: its number". Promise 11: "k: the index of the value, 0 to its count minus 1". */
    private static void valueEdges() {
        RegisterGateway x = new RegisterGateway();
        for (int register = 0; register < 32; register++) {
            x.poke(1, register, 1000 + register);
        }
        x.read(0, 1, 16, 16);
        x.read(0, 1, 0, 1);
        x.finish();
        CHECK.due("first of 16", x.value(0, 0), 1016);
        CHECK.due("last of 16", x.value(0, 15), 1031);
        CHECK.outOfBounds("behind the last of 16", x, () -> x.value(0, 16));
        CHECK.due("the one of 1", x.value(1, 0), 1000);
        CHECK.outOfBounds("behind the one", x, () -> x.value(1, 1));
    }

    /** Promise 11: "Throws IllegalStateException if it is no read that is done". */
    private static void valueRefusesWhatIsNoDoneRead() {
        RegisterGateway x = Scenes.worn();
        CHECK.illegalState("a write that failed", x, () -> x.value(1, 0));
        CHECK.illegalState("a read that failed", x, () -> x.value(3, 0));
        CHECK.illegalState("a write that is waiting", x, () -> x.value(4, 0));
        CHECK.refused("a read that is waiting", x, Scenes.ILLEGAL_STATE, k -> x.value(6, k), 0, 15);
        RegisterGateway y = new RegisterGateway();
        y.write(0, 1, 0, 5);
        y.step();
        CHECK.illegalState("a write that is done", y, () -> y.value(0, 0));
    }

    /** Promise 11: "Returns a value of a read request that is done." Promise 11: "Returns the value." */
    private static void valueStays() {
        RegisterGateway x = new RegisterGateway();
        x.poke(1, 0, 65535);
        x.read(0, 1, 0, 2);
        x.step();
        x.poke(1, 0, 1);
        x.clearCache();
        CHECK.due("the greatest, as it was then", x.value(0, 0), 65535);
        CHECK.due("the least", x.value(0, 1), 0);
    }

    /** Promise 12: "Throws IndexOutOfBoundsException if state is out of its range". Promise 12: "state: 0 to 2". */
    private static void requestsRefusesStates() {
        RegisterGateway x = Scenes.worn();
        CHECK.range("state", x, 0, 2, Scenes.OUT_OF_BOUNDS, state -> x.requests(state));
    }

    /** Promise 12: "Counts the requests in a state." Promise 12: "Returns the number of requests." */
    private static void requestsCounts() {
        RegisterGateway x = Scenes.worn();
        CHECK.due("waiting", x.requests(0), 3);
        CHECK.due("done", x.requests(1), 2);
        CHECK.due("failed", x.requests(2), 2);
        RegisterGateway y = Scenes.full();
        CHECK.due("all 40", y.requests(0), 40);
        CHECK.due("none is done", y.requests(1), 0);
        CHECK.due("none has failed", y.requests(2), 0);
    }

    /** Promise 13: "Throws IndexOutOfBoundsException if there is no such client or state". */
    private static void requestsOfRefusesClientsAndStates() {
        RegisterGateway x = Scenes.worn();
        CHECK.range("client", x, 0, 3, Scenes.OUT_OF_BOUNDS, client -> x.requestsOf(client, 0));
        CHECK.range("state", x, 0, 2, Scenes.OUT_OF_BOUNDS, state -> x.requestsOf(3, state));
    }

    /**
     * Promise 13: "Counts the requests of a client in a state." Promise 13: "client: 0 to 3". Promise 13:
     * "state: 0 to 2". Promise 13: "Returns the number of requests."
     */
    private static void requestsOfCounts() {
        RegisterGateway x = Scenes.worn();
        int[][] due = {{1, 1, 0}, {1, 0, 1}, {1, 1, 0}, {0, 0, 1}};
        for (int client = 0; client < 4; client++) {
            for (int state = 0; state < 3; state++) {
                CHECK.due("client " + client + ", state " + state, x.requestsOf(client, state), due[client][state]);
            }
        }
        CHECK.due("ten of forty", Scenes.full().requestsOf(3, 0), 10);
    }

    /** Description, Requests: "Clients are 0 to 3." */
    private static void fourClients() {
        RegisterGateway x = new RegisterGateway();
        for (int client = 0; client < 4; client++) {
            x.read(client, 1, 5 * client, 1);
            CHECK.due("its request", x.requestsOf(client, 0), 1);
        }
        for (int wrong : new int[] {-1, 4}) {
            CHECK.outOfBounds("read", x, () -> x.read(wrong, 1, 0, 1));
            CHECK.outOfBounds("write", x, () -> x.write(wrong, 1, 0, 1));
            CHECK.outOfBounds("requestsOf", x, () -> x.requestsOf(wrong, 0));
        }
    }

    /**
     * Description, Requests: "A request is a read of count registers from a start on (1 to 16), or a
     * write of a value to a register, for one device."
     */
    private static void whatARequestIs() {
        for (int count = 1; count <= 16; count++) {
            RegisterGateway x = new RegisterGateway();
            x.read(0, 1, 32 - count, count);
            x.poke(1, 31, 7);
            x.poke(2, 31, 8);
            x.step();
            CHECK.due("its last value", x.value(0, count - 1), 7);
            CHECK.due("it has read no more", x.clearCache(), count);
            CHECK.due("time", x.time(), 12 + 5 + 5 + 2 * count);
        }
        RegisterGateway y = new RegisterGateway();
        y.write(0, 2, 31, 5);
        y.step();
        CHECK.due("written", y.peek(2, 31), 5);
        CHECK.due("not to its neighbour", y.peek(2, 30), 0);
        CHECK.due("nor to another device", y.peek(1, 31), 0);
    }

    /**
     * Description, Requests: "Requests are numbered from 0 in the order in which they are made; at most
     * 40 can be made in all."
     */
    private static void fortyInAll() {
        RegisterGateway x = new RegisterGateway();
        for (int i = 0; i < 40; i++) {
            CHECK.due("number", i % 3 == 0 ? x.write(i % 4, 1, i, i) : x.read(i % 4, 1, i, 1), i);
            if (i % 5 == 4) {
                x.finish();
            }
        }
        CHECK.due("all have ended", x.requests(0), 0);
        CHECK.illegalState("no read more", x, () -> x.read(0, 1, 0, 1));
        CHECK.illegalState("no write more", x, () -> x.write(0, 1, 0, 1));
        CHECK.due("the last one", x.request(39, 2), 39);
        CHECK.outOfBounds("behind the last one", x, () -> x.request(40, 2));
    }

    /**
     * Description, Requests: "A request is waiting (0) at first, then done (1) or failed (2), with a code
     * if it failed."
     */
    private static void statesOfARequest() {
        RegisterGateway x = new RegisterGateway();
        x.read(0, 1, 31, 1);
        x.read(0, 2, 32, 1);
        facts("waiting", x, 0, 0, 1, 31, 1, 0, 0, 0);
        x.step();
        facts("done, without a code", x, 0, 0, 1, 31, 1, 0, 1, 0);
        facts("the other is still waiting", x, 1, 0, 2, 32, 1, 0, 0, 0);
        x.step();
        facts("failed, with a code", x, 1, 0, 2, 32, 1, 0, 2, 2);
    }

    public static void main(String[] args) {
        CHECK.runAll(RequestEdgesTest.class);
    }
}
