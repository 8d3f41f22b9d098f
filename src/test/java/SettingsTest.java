/** Promises 1 to 7: a new object, settings, devices and their faults. */
public final class SettingsTest {
    private static final Check CHECK = new Check();

    private static void newObject() {
        RegisterGateway x = new RegisterGateway();
        CHECK.due("new time", x.time(), 0);
        for (int state = 0; state < 3; state++) {
            CHECK.due("new requests " + state, x.requests(state), 0);
        }
        for (int what = 0; what < 6; what++) {
            CHECK.due("new count " + what, x.count(what), 0);
        }
        CHECK.due("new group", x.group(), 0);
        CHECK.due("new step", x.step(), 0);
        CHECK.due("new finish", x.finish(), 0);
        CHECK.due("new clearCache", x.clearCache(), 0);
        CHECK.due("new endFrame", x.endFrame(), 0);
        CHECK.due("new checksum", x.checksum(), 65535);
        int[] settings = {50, 30, 1, 0, 1};
        for (int s = 0; s < 5; s++) {
            CHECK.due("new setting " + s, x.set(s, 1), settings[s]);
        }
        for (int d = 1; d <= 3; d++) {
            for (int r = 0; r < 32; r++) {
                CHECK.due("new peek", x.peek(d, r), 0);
                CHECK.due("new cached", x.cached(d, r), -1);
                CHECK.due("new protect", x.protect(d, r, false), false);
            }
            CHECK.due("new delay", x.setDevice(d, 0, 0), 5);
            CHECK.due("new greatest", x.setDevice(d, 1, 0), 65535);
            CHECK.due("new faults", x.fault(d, 1, 0), 1);
        }
    }

    private static void settings() {
        RegisterGateway x = new RegisterGateway();
        int[] start = {50, 30, 1, 0, 1};
        int[] least = {0, 1, 0, 0, 0};
        int[] greatest = {10000, 1000, 3, 1000, 1};
        for (int i = 0; i < 5; i++) {
            int s = i;
            CHECK.due("set least " + s, x.set(s, least[s]), start[s]);
            CHECK.due("set greatest " + s, x.set(s, greatest[s]), least[s]);
            CHECK.illegalArgument("set below " + s, x, () -> x.set(s, least[s] - 1));
            CHECK.illegalArgument("set above " + s, x, () -> x.set(s, greatest[s] + 1));
            CHECK.illegalArgument("set far below " + s, x, () -> x.set(s, Integer.MIN_VALUE));
            CHECK.illegalArgument("set far above " + s, x, () -> x.set(s, Integer.MAX_VALUE));
            CHECK.due("set after throws " + s, x.set(s, least[s]), greatest[s]);
        }
        for (int s : new int[] {-1, 5, Integer.MIN_VALUE, Integer.MAX_VALUE}) {
            CHECK.outOfBounds("set " + s, x, () -> x.set(s, 1));
            CHECK.outOfBounds("set, both wrong " + s, x, () -> x.set(s, -1));
        }
    }

    private static void deviceProperties() {
        RegisterGateway x = new RegisterGateway();
        CHECK.due("delay", x.setDevice(1, 0, 1000), 5);
        CHECK.due("delay again", x.setDevice(1, 0, 0), 1000);
        CHECK.due("delay of another", x.setDevice(2, 0, 7), 5);
        CHECK.due("greatest", x.setDevice(3, 1, 0), 65535);
        CHECK.due("greatest again", x.setDevice(3, 1, 65535), 0);
        CHECK.due("greatest apart from delay", x.setDevice(3, 0, 9), 5);
        CHECK.illegalArgument("delay 1001", x, () -> x.setDevice(1, 0, 1001));
        CHECK.illegalArgument("delay -1", x, () -> x.setDevice(1, 0, -1));
        CHECK.illegalArgument("greatest 65536", x, () -> x.setDevice(1, 1, 65536));
        CHECK.illegalArgument("greatest -1", x, () -> x.setDevice(1, 1, -1));
        for (int wrong : new int[] {-1, 2, Integer.MAX_VALUE, Integer.MIN_VALUE}) {
            CHECK.outOfBounds("property", x, () -> x.setDevice(1, wrong, 0));
            CHECK.outOfBounds("property and value", x, () -> x.setDevice(1, wrong, -1));
        }
        for (int wrong : new int[] {0, 4, -1, Integer.MAX_VALUE, Integer.MIN_VALUE}) {
            CHECK.outOfBounds("device", x, () -> x.setDevice(wrong, 0, 0));
            CHECK.outOfBounds("device and value", x, () -> x.setDevice(wrong, 0, 1001));
        }
    }

    private static void registers() {
        RegisterGateway x = new RegisterGateway();
        CHECK.due("poke", x.poke(1, 0, 65535), 0);
        CHECK.due("poke again", x.poke(1, 0, 0), 65535);
        CHECK.due("poke last", x.poke(3, 31, 77), 0);
        CHECK.due("peek last", x.peek(3, 31), 77);
        CHECK.due("peek of another device", x.peek(2, 31), 0);
        CHECK.due("poke caches nothing", x.cached(3, 31), -1);
        CHECK.due("protect", x.protect(3, 31, true), false);
        CHECK.due("poke is direct", x.poke(3, 31, 78), 77);
        CHECK.due("protect again", x.protect(3, 31, true), true);
        CHECK.due("protect of another register", x.protect(3, 30, false), false);
        CHECK.due("unprotect", x.protect(3, 31, false), true);
        CHECK.due("unprotect again", x.protect(3, 31, false), false);
        CHECK.illegalArgument("poke 65536", x, () -> x.poke(1, 0, 65536));
        CHECK.illegalArgument("poke -1", x, () -> x.poke(1, 0, -1));
        for (int wrong : new int[] {-1, 32, 33, Integer.MAX_VALUE, Integer.MIN_VALUE}) {
            CHECK.outOfBounds("poke register", x, () -> x.poke(1, wrong, 0));
            CHECK.outOfBounds("poke register and value", x, () -> x.poke(1, wrong, -1));
            CHECK.outOfBounds("peek register", x, () -> x.peek(1, wrong));
            CHECK.outOfBounds("protect register", x, () -> x.protect(1, wrong, true));
        }
        for (int wrong : new int[] {0, 4, -1, Integer.MAX_VALUE, Integer.MIN_VALUE}) {
            CHECK.outOfBounds("poke device", x, () -> x.poke(wrong, 0, 65536));
            CHECK.outOfBounds("peek device", x, () -> x.peek(wrong, 0));
            CHECK.outOfBounds("protect device", x, () -> x.protect(wrong, 0, true));
        }
    }

    private static void faults() {
        RegisterGateway x = new RegisterGateway();
        for (int n = 1; n <= 6; n++) {
            CHECK.due("fault " + n, x.fault(2, 1 + n % 4, n == 1 ? 0 : 2000), n);
        }
        CHECK.illegalState("seventh fault", x, () -> x.fault(2, 1, 0));
        CHECK.illegalArgument("seventh fault, kind 5", x, () -> x.fault(2, 5, 0));
        CHECK.illegalArgument("seventh fault, number 2001", x, () -> x.fault(2, 1, 2001));
        CHECK.due("fault of another device", x.fault(3, 4, 2000), 1);
        CHECK.illegalArgument("kind 0", x, () -> x.fault(1, 0, 0));
        CHECK.illegalArgument("kind 5", x, () -> x.fault(1, 5, 0));
        CHECK.illegalArgument("number -1", x, () -> x.fault(1, 1, -1));
        CHECK.illegalArgument("number 2001", x, () -> x.fault(1, 1, 2001));
        CHECK.outOfBounds("device 0", x, () -> x.fault(0, 0, -1));
        CHECK.outOfBounds("device 4", x, () -> x.fault(4, 1, 0));
        x.set(2, 0);
        x.read(0, 2, 0, 1);
        x.step();
        CHECK.due("a frame uses one fault up", x.fault(2, 1, 0), 6);
    }

    public static void main(String[] args) {
        newObject();
        settings();
        deviceProperties();
        registers();
        faults();
        CHECK.end("SettingsTest");
    }
}
