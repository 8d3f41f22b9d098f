/**
 * Edges of promises 1 to 7 and of the paragraph "Devices". The remark of each test says which promise
 * and which sentence it holds; RemarksTest looks whether the document has it.
 */
public final class DeviceEdgesTest {
    private static final Check CHECK = new Check();

    /** Promise 1: "Creates a gateway at time 0, without requests". */
    private static void newGatewayIsEmpty() {
        RegisterGateway x = new RegisterGateway();
        CHECK.due("time", x.time(), 0);
        for (int state = 0; state < 3; state++) {
            CHECK.due("requests " + state, x.requests(state), 0);
            CHECK.due("requests of 3, " + state, x.requestsOf(3, state), 0);
        }
        CHECK.outOfBounds("request 0", x, () -> x.request(0, 0));
        CHECK.due("group", x.group(), 0);
        CHECK.due("frameByte", x.frameByte(0), -1);
        CHECK.due("clearCache", x.clearCache(), 0);
        CHECK.due("endFrame", x.endFrame(), 0);
        for (int what = 0; what < 6; what++) {
            CHECK.due("count " + what, x.count(what), 0);
        }
        CHECK.due("step", x.step(), 0);
        CHECK.due("finish", x.finish(), 0);
        CHECK.due("time is still 0", x.time(), 0);
    }

    /** Promise 1: "with the lifetime 50, the timeout 30, the retries 1, the drain 0 and joining on". */
    private static void newSettings() {
        RegisterGateway x = new RegisterGateway();
        int[] due = {50, 30, 1, 0, 1};
        for (int setting = 0; setting < 5; setting++) {
            CHECK.due("setting " + setting, x.set(setting, 1), due[setting]);
        }
    }

    /** Promise 1: "with the lifetime 50, the timeout 30, the retries 1, the drain 0 and joining on". */
    private static void newSettingsAct() {
        RegisterGateway x = new RegisterGateway();
        x.setDevice(1, 0, 30);
        x.read(0, 1, 0, 1);
        x.read(0, 1, 1, 1);
        CHECK.due("joining is on", x.group(), 3);
        x.step();
        CHECK.due("a reply at the timeout", x.time(), 12 + 30 + 9);
        x.pass(50);
        x.read(0, 1, 0, 1);
        CHECK.due("fresh at the age of 50", x.frameByte(0), -1);
        x.pass(1);
        CHECK.due("not at 51", x.frameByte(0), 1);
        x.setDevice(1, 0, 31);
        x.step();
        CHECK.due("two attempts", x.count(0), 1 + 2);
        CHECK.due("both missed", x.time(), 102 + 42 + 42);
        x.read(0, 2, 0, 1);
        x.step();
        CHECK.due("no drain", x.time(), 186 + 12 + 5 + 7);
    }

    /** Promise 2: "Throws IndexOutOfBoundsException if setting is out of its range". */
    private static void setRefusesSettings() {
        RegisterGateway x = Scenes.worn();
        CHECK.range("set", x, 0, 4, Scenes.OUT_OF_BOUNDS, setting -> x.set(setting, 1));
        CHECK.refused("set, value wrong too", x, Scenes.OUT_OF_BOUNDS, setting -> x.set(setting, -1), -1, 5);
    }

    /** Promise 2: "Sets a setting." Promise 2: "setting: 0 lifetime, 1 timeout, 2 retries, 3 drain, 4 joining". */
    private static void eachSettingIsItsOwn() {
        RegisterGateway x = new RegisterGateway();
        int[] values = {100, 200, 3, 400, 0};
        for (int setting = 0; setting < 5; setting++) {
            x.set(setting, values[setting]);
        }
        for (int setting = 0; setting < 5; setting++) {
            CHECK.due("setting " + setting, x.set(setting, 1), values[setting]);
        }
    }

    /** Promise 2: "0 to 10000 for lifetime". */
    private static void lifetimeEdges() {
        RegisterGateway x = Scenes.worn();
        CHECK.range("lifetime", x, 0, 10000, Scenes.ILLEGAL_ARGUMENT, value -> x.set(0, value));
        RegisterGateway y = new RegisterGateway();
        y.read(0, 1, 0, 1);
        y.step();
        y.read(0, 1, 0, 1);
        y.set(0, 0);
        CHECK.due("lifetime 0, age 0", y.frameByte(0), -1);
        y.pass(1);
        CHECK.due("lifetime 0, age 1", y.frameByte(0), 1);
        y.set(0, 10000);
        y.pass(9999);
        CHECK.due("lifetime 10000, age 10000", y.frameByte(0), -1);
        y.pass(1);
        CHECK.due("lifetime 10000, age 10001", y.frameByte(0), 1);
    }

    private static int endOfRead(int timeout, int delay, int lateBy) {
        RegisterGateway x = new RegisterGateway();
        x.set(1, timeout);
        x.set(2, 0);
        x.setDevice(1, 0, delay);
        x.fault(1, 3, lateBy);
        x.read(0, 1, 0, 1);
        return x.finish();
    }

    /** Promise 2: "1 to 1000 for timeout". */
    private static void timeoutEdges() {
        RegisterGateway x = Scenes.worn();
        CHECK.range("timeout", x, 1, 1000, Scenes.ILLEGAL_ARGUMENT, value -> x.set(1, value));
        CHECK.due("timeout 1, a reply at 1", endOfRead(1, 1, 0), 12 + 1 + 7);
        CHECK.due("timeout 1, a reply at 2", endOfRead(1, 2, 0), 12 + 1);
        CHECK.due("timeout 1000, a reply at 1000", endOfRead(1000, 1000, 0), 12 + 1000 + 7);
        CHECK.due("timeout 1000, a reply at 1001", endOfRead(1000, 1000, 1), 12 + 1000);
    }

    private static int attempts(int retries) {
        RegisterGateway x = new RegisterGateway();
        x.set(2, retries);
        for (int i = 0; i < 6; i++) {
            x.fault(1, 1, 0);
        }
        x.read(0, 1, 0, 1);
        x.step();
        return x.count(0);
    }

    /** Promise 2: "0 to 3 for retries". */
    private static void retriesEdges() {
        RegisterGateway x = Scenes.worn();
        CHECK.range("retries", x, 0, 3, Scenes.ILLEGAL_ARGUMENT, value -> x.set(2, value));
        for (int retries = 0; retries <= 3; retries++) {
            CHECK.due("attempts with " + retries + " retries", attempts(retries), 1 + retries);
        }
    }

    private static int endBehindMissed(int drain) {
        RegisterGateway x = Scenes.late(2000);
        x.set(3, drain);
        return x.finish();
    }

    /** Promise 2: "0 to 1000 for drain". */
    private static void drainEdges() {
        RegisterGateway x = Scenes.worn();
        CHECK.range("drain", x, 0, 1000, Scenes.ILLEGAL_ARGUMENT, value -> x.set(3, value));
        CHECK.due("drain 0", endBehindMissed(0), 42 + 12 + 5 + 7);
        CHECK.due("drain 1", endBehindMissed(1), 42 + 1 + 12 + 5 + 7);
        CHECK.due("drain 1000", endBehindMissed(1000), 42 + 1000 + 12 + 5 + 7);
    }

    /** Promise 2: "0 (off) or 1 (on) for joining". */
    private static void joiningEdges() {
        RegisterGateway x = Scenes.worn();
        CHECK.range("joining", x, 0, 1, Scenes.ILLEGAL_ARGUMENT, value -> x.set(4, value));
        x.set(4, 0);
        CHECK.due("off", x.group(), 1 << 4);
        x.set(4, 1);
        CHECK.due("on", x.group(), 1 << 4 | 1 << 5);
    }

    /** Promise 2: "Throws IllegalArgumentException if value is out of its range". */
    private static void setRefusesValues() {
        int[] least = {0, 1, 0, 0, 0};
        int[] greatest = {10000, 1000, 3, 1000, 1};
        RegisterGateway x = Scenes.worn();
        for (int i = 0; i < 5; i++) {
            int setting = i;
            CHECK.refused("set " + setting, x, Scenes.ILLEGAL_ARGUMENT, value -> x.set(setting, value),
                    least[i] - 1, greatest[i] + 1);
        }
    }

    /** Promise 2: "Returns the previous value." */
    private static void setReturnsPrevious() {
        RegisterGateway x = new RegisterGateway();
        CHECK.due("at first", x.set(1, 1000), 30);
        CHECK.due("then", x.set(1, 1), 1000);
        CHECK.illegalArgument("refused", x, () -> x.set(1, 0));
        CHECK.due("not the refused one", x.set(1, 1), 1);
        CHECK.due("the same again", x.set(1, 2), 1);
    }

    /** Promise 3: "Throws IndexOutOfBoundsException if there is no such device or property". */
    private static void setDeviceRefusesDevicesAndProperties() {
        RegisterGateway x = Scenes.worn();
        CHECK.range("device", x, 1, 3, Scenes.OUT_OF_BOUNDS, device -> x.setDevice(device, 0, 5));
        CHECK.range("property", x, 0, 1, Scenes.OUT_OF_BOUNDS, property -> x.setDevice(1, property, 5));
        CHECK.refused("device and value", x, Scenes.OUT_OF_BOUNDS, device -> x.setDevice(device, 0, -1), 0, 4);
        CHECK.refused("property and value", x, Scenes.OUT_OF_BOUNDS, p -> x.setDevice(1, p, -1), -1, 2);
    }

    /** Promise 3: "Sets a property of a device." Promise 3: "device: 1 to 3". */
    private static void setDeviceSetsOneDevice() {
        RegisterGateway x = new RegisterGateway();
        for (int device = 1; device <= 3; device++) {
            x.setDevice(device, 0, 100 + device);
        }
        for (int device = 1; device <= 3; device++) {
            CHECK.due("delay of " + device, x.setDevice(device, 0, 5), 100 + device);
            CHECK.due("greatest of " + device, x.setDevice(device, 1, 5), 65535);
        }
    }

    /** Promise 3: "property: 0 the delay, 1 the greatest value". */
    private static void propertiesAreTwo() {
        RegisterGateway x = new RegisterGateway();
        CHECK.due("delay", x.setDevice(2, 0, 7), 5);
        CHECK.due("greatest value", x.setDevice(2, 1, 8), 65535);
        CHECK.due("delay again", x.setDevice(2, 0, 7), 7);
        CHECK.due("greatest value again", x.setDevice(2, 1, 8), 8);
    }

    /** Promise 3: "0 to 1000 for the delay". */
    private static void delayEdges() {
        RegisterGateway x = Scenes.worn();
        CHECK.range("delay", x, 0, 1000, Scenes.ILLEGAL_ARGUMENT, value -> x.setDevice(3, 0, value));
        CHECK.due("delay 0", endOfRead(1000, 0, 0), 12 + 7);
        CHECK.due("delay 1000", endOfRead(1000, 1000, 0), 12 + 1000 + 7);
    }

    private static int codeOfWrite(int greatest, int value) {
        RegisterGateway x = new RegisterGateway();
        x.setDevice(3, 1, greatest);
        x.write(0, 3, 4, value);
        x.step();
        return x.request(0, 6);
    }

    /** Promise 3: "0 to 65535 for the greatest value". */
    private static void greatestValueEdges() {
        RegisterGateway x = Scenes.worn();
        CHECK.range("greatest", x, 0, 65535, Scenes.ILLEGAL_ARGUMENT, value -> x.setDevice(1, 1, value));
        CHECK.due("0 by 0", codeOfWrite(0, 0), 0);
        CHECK.due("1 by 0", codeOfWrite(0, 1), 3);
        CHECK.due("65534 by 65534", codeOfWrite(65534, 65534), 0);
        CHECK.due("65535 by 65534", codeOfWrite(65534, 65535), 3);
        CHECK.due("65535 by 65535", codeOfWrite(65535, 65535), 0);
    }

    /** Promise 3: "Throws IllegalArgumentException if value is out of its range". */
    private static void setDeviceRefusesValues() {
        RegisterGateway x = Scenes.worn();
        CHECK.refused("delay", x, Scenes.ILLEGAL_ARGUMENT, value -> x.setDevice(2, 0, value), -1, 1001, 65535);
        CHECK.refused("greatest", x, Scenes.ILLEGAL_ARGUMENT, value -> x.setDevice(2, 1, value), -1, 65536);
    }

    /** Promise 3: "Returns the previous value." */
    private static void setDeviceReturnsPrevious() {
        RegisterGateway x = new RegisterGateway();
        CHECK.due("delay", x.setDevice(1, 0, 1000), 5);
        CHECK.due("delay again", x.setDevice(1, 0, 0), 1000);
        CHECK.due("greatest", x.setDevice(1, 1, 0), 65535);
        CHECK.due("greatest again", x.setDevice(1, 1, 65535), 0);
        CHECK.illegalArgument("refused", x, () -> x.setDevice(1, 0, 1001));
        CHECK.due("not the refused one", x.setDevice(1, 0, 1), 0);
    }

    /** Promise 4: "Throws IndexOutOfBoundsException if there is no such device or register". */
    private static void pokeRefusesPlaces() {
        RegisterGateway x = Scenes.worn();
        CHECK.range("device", x, 1, 3, Scenes.OUT_OF_BOUNDS, device -> x.poke(device, 0, 5));
        CHECK.range("register", x, 0, 31, Scenes.OUT_OF_BOUNDS, register -> x.poke(1, register, 5));
        CHECK.refused("device and value", x, Scenes.OUT_OF_BOUNDS, device -> x.poke(device, 0, 65536), 0, 4);
        CHECK.refused("register and value", x, Scenes.OUT_OF_BOUNDS, r -> x.poke(1, r, -1), -1, 32);
    }

    /** Promise 4: "device: 1 to 3". Promise 4: "register: 0 to 31". */
    private static void pokeSetsOneRegister() {
        RegisterGateway x = new RegisterGateway();
        for (int device = 1; device <= 3; device++) {
            x.poke(device, 0, 10 * device);
            x.poke(device, 31, 100 * device);
        }
        for (int device = 1; device <= 3; device++) {
            CHECK.due("first of " + device, x.peek(device, 0), 10 * device);
            CHECK.due("second of " + device, x.peek(device, 1), 0);
            CHECK.due("last but one of " + device, x.peek(device, 30), 0);
            CHECK.due("last of " + device, x.peek(device, 31), 100 * device);
        }
    }

    /** Promise 4: "value: 0 to 65535". */
    private static void pokedValueEdges() {
        RegisterGateway x = Scenes.worn();
        CHECK.range("value", x, 0, 65535, Scenes.ILLEGAL_ARGUMENT, value -> x.poke(2, 31, value));
        CHECK.due("the greatest", x.peek(2, 31), 65535);
    }

    /** Promise 4: "Throws IllegalArgumentException if value is out of its range". */
    private static void pokeRefusesValues() {
        RegisterGateway x = Scenes.worn();
        for (int device = 1; device <= 3; device++) {
            int d = device;
            CHECK.refused("poke", x, Scenes.ILLEGAL_ARGUMENT, value -> x.poke(d, 0, value), -1, 65536);
        }
    }

    /** Promise 4: "Sets a register of a device directly." */
    private static void pokeIsDirect() {
        RegisterGateway x = new RegisterGateway();
        x.setDevice(1, 1, 0);
        x.protect(1, 31, true);
        x.poke(1, 31, 65535);
        CHECK.due("neither protection nor greatest value hold it", x.peek(1, 31), 65535);
        CHECK.due("nothing is cached by it", x.cached(1, 31), -1);
        CHECK.due("no time passes", x.time(), 0);
    }

    /** Promise 4: "Returns the previous value." */
    private static void pokeReturnsPrevious() {
        RegisterGateway x = new RegisterGateway();
        CHECK.due("at first", x.poke(3, 31, 65535), 0);
        CHECK.due("then", x.poke(3, 31, 1), 65535);
        CHECK.illegalArgument("refused", x, () -> x.poke(3, 31, 65536));
        CHECK.due("not the refused one", x.poke(3, 31, 0), 1);
    }

    /** Promise 5: "Throws IndexOutOfBoundsException if there is no such device or register". */
    private static void peekRefusesPlaces() {
        RegisterGateway x = Scenes.worn();
        CHECK.range("device", x, 1, 3, Scenes.OUT_OF_BOUNDS, device -> x.peek(device, 0));
        CHECK.range("register", x, 0, 31, Scenes.OUT_OF_BOUNDS, register -> x.peek(3, register));
    }

    /** Promise 5: "device: 1 to 3". Promise 5: "register: 0 to 31". */
    private static void peekOfEdges() {
        RegisterGateway x = new RegisterGateway();
        for (int device = 1; device <= 3; device++) {
            for (int register = 0; register < 32; register++) {
                x.poke(device, register, 1000 * device + register);
            }
        }
        for (int device = 1; device <= 3; device++) {
            for (int register = 0; register < 32; register++) {
                CHECK.due("register", x.peek(device, register), 1000 * device + register);
            }
        }
    }

    /** Promise 5: "Returns the value of a register of a device." Promise 5: "Returns the value." */
    private static void peekReturnsTheValue() {
        RegisterGateway x = new RegisterGateway();
        x.poke(1, 0, 65535);
        x.poke(3, 31, 1);
        CHECK.due("first register of the first device", x.peek(1, 0), 65535);
        CHECK.due("last register of the last device", x.peek(3, 31), 1);
        CHECK.due("another", x.peek(2, 0), 0);
        x.write(0, 3, 31, 2);
        x.step();
        CHECK.due("what a frame has written", x.peek(3, 31), 2);
    }

    /** Promise 6: "Throws IndexOutOfBoundsException if there is no such device or register". */
    private static void protectRefusesPlaces() {
        RegisterGateway x = Scenes.worn();
        for (boolean on : new boolean[] {true, false}) {
            CHECK.range("device", x, 1, 3, Scenes.OUT_OF_BOUNDS, device -> x.protect(device, 0, on));
            CHECK.range("register", x, 0, 31, Scenes.OUT_OF_BOUNDS, register -> x.protect(3, register, on));
        }
    }

    private static int codeOfWriteTo(RegisterGateway x, int device, int register) {
        int request = x.write(0, device, register, 9);
        x.finish();
        return x.request(request, 6);
    }

    /**
     * Promise 6: "Makes a register readable only, or writable again." Promise 6: "device: 1 to 3".
     * Promise 6: "register: 0 to 31". Promise 6: "on: true for readable only".
     */
    private static void protectMeansOneRegister() {
        RegisterGateway x = new RegisterGateway();
        x.protect(1, 0, true);
        x.protect(3, 31, true);
        CHECK.due("register 0", codeOfWriteTo(x, 1, 0), 2);
        CHECK.due("register 31", codeOfWriteTo(x, 3, 31), 2);
        CHECK.due("beside register 0", codeOfWriteTo(x, 1, 1), 0);
        CHECK.due("beside register 31", codeOfWriteTo(x, 3, 30), 0);
        CHECK.due("31 of device 1", codeOfWriteTo(x, 1, 31), 0);
        CHECK.due("0 of device 3", codeOfWriteTo(x, 3, 0), 0);
        CHECK.due("31 of device 2", codeOfWriteTo(x, 2, 31), 0);
        x.protect(1, 0, false);
        x.protect(3, 31, false);
        CHECK.due("register 0, writable again", codeOfWriteTo(x, 1, 0), 0);
        CHECK.due("register 31, writable again", codeOfWriteTo(x, 3, 31), 0);
    }

    /** Promise 6: "Returns true if it was readable only before." */
    private static void protectReturnsWhatWas() {
        RegisterGateway x = new RegisterGateway();
        for (int register : new int[] {0, 1, 30, 31}) {
            CHECK.due("off when off", x.protect(2, register, false), false);
            CHECK.due("on when off", x.protect(2, register, true), false);
            CHECK.due("on when on", x.protect(2, register, true), true);
            CHECK.outOfBounds("refused", x, () -> x.protect(2, 32, false));
            CHECK.due("off when on", x.protect(2, register, false), true);
            CHECK.due("off again", x.protect(2, register, false), false);
        }
    }

    /** Promise 7: "Throws IndexOutOfBoundsException if there is no such device". Promise 7: "device: 1 to 3". */
    private static void faultRefusesDevices() {
        RegisterGateway x = Scenes.worn();
        CHECK.range("device", x, 1, 3, Scenes.OUT_OF_BOUNDS, device -> x.fault(device, 1, 0));
        CHECK.refused("device and kind", x, Scenes.OUT_OF_BOUNDS, device -> x.fault(device, 0, 0), 0, 4);
        CHECK.refused("device and number", x, Scenes.OUT_OF_BOUNDS, device -> x.fault(device, 1, -1), 0, 4);
    }

    /** Promise 7: "kind: 1 to 4". */
    private static void faultKindEdges() {
        RegisterGateway x = Scenes.worn();
        CHECK.range("kind", x, 1, 4, Scenes.ILLEGAL_ARGUMENT, kind -> x.fault(3, kind, 0));
    }

    /** Promise 7: "number: 0 to 2000". */
    private static void faultNumberEdges() {
        for (int kind = 1; kind <= 4; kind++) {
            int k = kind;
            RegisterGateway x = Scenes.worn();
            CHECK.range("number of kind " + kind, x, 0, 2000, Scenes.ILLEGAL_ARGUMENT, number -> x.fault(3, k, number));
        }
    }

    /** Promise 7: "Throws IllegalArgumentException if kind or number is out of its range". */
    private static void faultRefusesKindsAndNumbers() {
        RegisterGateway x = Scenes.full();
        CHECK.refused("kind, with 6 faults", x, Scenes.ILLEGAL_ARGUMENT, kind -> x.fault(2, kind, 0), 0, 5);
        CHECK.refused("number, with 6 faults", x, Scenes.ILLEGAL_ARGUMENT, n -> x.fault(2, 4, n), -1, 2001);
    }

    /** Promise 7: "Throws IllegalStateException if it has 6 faults". */
    private static void sevenFaultsAreRefused() {
        RegisterGateway x = new RegisterGateway();
        x.set(2, 0);
        for (int i = 0; i < 6; i++) {
            x.fault(2, 1 + i % 4, 2000);
        }
        for (int kind = 1; kind <= 4; kind++) {
            int k = kind;
            CHECK.illegalState("a seventh of kind " + kind, x, () -> x.fault(2, k, 0));
        }
        CHECK.due("the other devices have none", x.fault(1, 1, 0) + x.fault(3, 1, 0), 2);
        x.read(0, 2, 0, 1);
        x.step();
        CHECK.due("a frame made room for one", x.fault(2, 1, 0), 6);
        CHECK.illegalState("and no more", x, () -> x.fault(2, 1, 0));
    }

    /**
     * Promise 7: "Appends a fault to the faults of a device." Promise 7: "Returns the number of faults that
     * the device has."
     */
    private static void faultReturnsHowMany() {
        RegisterGateway x = new RegisterGateway();
        for (int n = 1; n <= 6; n++) {
            CHECK.due("device 1", x.fault(1, 4, 0), n);
            CHECK.due("device 3", x.fault(3, 4, 0), n);
        }
        for (int i = 0; i < 6; i++) {
            x.read(0, 1, 3 * i, 1);
        }
        x.finish();
        CHECK.due("all of device 1 are used up", x.fault(1, 4, 0), 1);
        CHECK.illegalState("those of device 3 are left", x, () -> x.fault(3, 4, 0));
    }

    /** Description, Devices: "There are three devices, 1 to 3." */
    private static void threeDevices() {
        RegisterGateway x = new RegisterGateway();
        for (int device = 1; device <= 3; device++) {
            x.poke(device, 0, device);
            int request = x.read(0, device, 0, 1);
            CHECK.due("its frame", x.frameByte(0), device);
            x.step();
            CHECK.due("its reply", x.value(request, 0), device);
        }
        for (int wrong : new int[] {0, 4}) {
            CHECK.outOfBounds("read", x, () -> x.read(0, wrong, 0, 1));
            CHECK.outOfBounds("write", x, () -> x.write(0, wrong, 0, 1));
            CHECK.outOfBounds("peek", x, () -> x.peek(wrong, 0));
            CHECK.outOfBounds("cached", x, () -> x.cached(wrong, 0));
        }
    }

    /**
     * Description, Devices: "Each has 32 registers, 0 to 31, with values from 0 to 65535 (initially 0),
     * a set of registers that can only be read (initially none), a greatest value for writing
     * (initially 65535), and a delay in ticks (initially 5)."
     */
    private static void newDevices() {
        RegisterGateway x = new RegisterGateway();
        for (int device = 1; device <= 3; device++) {
            for (int register = 0; register < 32; register++) {
                CHECK.due("value", x.peek(device, register), 0);
                CHECK.due("readable only", x.protect(device, register, false), false);
            }
            CHECK.due("greatest value", x.setDevice(device, 1, 65535), 65535);
            CHECK.due("delay", x.setDevice(device, 0, 5), 5);
            int before = x.time();
            int written = x.write(0, device, 31, 65535);
            x.step();
            CHECK.due("65535 may be written", x.request(written, 5), 1);
            CHECK.due("with the delay 5", x.time(), before + 12 + 5 + 8);
            CHECK.due("written", x.peek(device, 31), 65535);
        }
    }

    /**
     * Description, Devices: "A device can have faults: a list of at most 6, which are used up one by
     * one: each frame that it gets uses the first one, if there is one."
     */
    private static void eachFrameUsesOneFault() {
        RegisterGateway x = new RegisterGateway();
        x.set(2, 3);
        for (int i = 0; i < 6; i++) {
            x.fault(1, 1, 0);
        }
        x.read(0, 2, 0, 1);
        x.step();
        CHECK.due("those of another device are not used", x.time(), 24);
        x.read(0, 1, 0, 1);
        x.step();
        CHECK.due("four attempts use four", x.time(), 24 + 4 * 42);
        x.read(0, 1, 5, 1);
        x.step();
        CHECK.due("two are left, then there is none", x.time(), 192 + 2 * 42 + 24);
        CHECK.due("frames", x.count(0), 1 + 4 + 3);
        CHECK.due("none is left", x.fault(1, 1, 0), 1);
    }

    /** Description, Devices: "each frame that it gets uses the first one, if there is one". */
    private static void faultsAreUsedInTheirOrder() {
        RegisterGateway x = new RegisterGateway();
        x.set(4, 0);
        x.fault(1, 4, 0);
        x.fault(1, 3, 7);
        x.fault(1, 1, 0);
        x.fault(1, 2, 0);
        for (int i = 0; i < 4; i++) {
            x.read(0, 1, 3 * i, 1);
        }
        x.step();
        CHECK.due("first busy", x.time(), 12 + 5 + 5);
        CHECK.due("busy", x.request(0, 6), 6);
        x.step();
        CHECK.due("then late", x.time(), 22 + 12 + 12 + 7);
        x.step();
        CHECK.due("then lost and damaged", x.time(), 53 + 42 + 42);
        CHECK.due("no reply", x.request(2, 6), 11);
        x.step();
        CHECK.due("then none", x.time(), 137 + 24);
    }

    /** Description, Devices: "1 the reply is lost". */
    private static void lostReply() {
        for (int number : new int[] {0, 2000}) {
            RegisterGateway x = new RegisterGateway();
            x.set(1, 1000);
            x.set(2, 0);
            x.fault(1, 1, number);
            x.write(0, 1, 0, 8);
            x.step();
            CHECK.due("no reply in 1000 ticks", x.request(0, 7), 12 + 1000);
            CHECK.due("code", x.request(0, 6), 11);
            CHECK.due("but it is written", x.peek(1, 0), 8);
            x.write(0, 1, 0, 8);
            x.step();
            CHECK.due("it never comes later", x.count(2), 0);
        }
    }

    private static void damaged(int register, int count, int number) {
        RegisterGateway x = new RegisterGateway();
        x.set(2, 0);
        x.fault(1, 2, number);
        x.read(0, 1, register, count);
        x.step();
        String name = count + " registers from " + register + ", damaged at " + number;
        CHECK.due(name, x.request(0, 6), 11);
        CHECK.due(name + ", time", x.time(), 42);
        CHECK.due(name + ", nothing is cached", x.clearCache(), 0);
    }

    /**
     * Description, Devices: "2 the byte of the reply with this number as its index (modulo the length of
     * the reply) is inverted in its lowest bit". Which byte it was can't be seen from outside: no single
     * bit leaves the checksum right. That there always is one, can: without the modulo, a number at or
     * above the length would damage nothing.
     */
    private static void damagedReply() {
        int[] lengths = {7, 37, 5};
        int[] registers = {0, 16, 32};
        int[] counts = {1, 16, 1};
        for (int i = 0; i < lengths.length; i++) {
            for (int number : new int[] {0, 1, lengths[i] - 1, lengths[i], lengths[i] + 1, 2 * lengths[i], 1999, 2000}) {
                damaged(registers[i], counts[i], number);
            }
        }
    }

    /** Description, Devices: "3 the delay is greater by this number for this reply". */
    private static void lateReply() {
        CHECK.due("by 0", endOfRead(30, 5, 0), 24);
        CHECK.due("by 25, to the timeout", endOfRead(30, 5, 25), 49);
        CHECK.due("by 26, behind it", endOfRead(30, 5, 26), 42);
        RegisterGateway x = new RegisterGateway();
        x.fault(1, 3, 20);
        x.read(0, 1, 0, 1);
        x.step();
        x.read(0, 1, 5, 1);
        x.step();
        CHECK.due("for this reply alone", x.time(), 44 + 24);
    }

    /** The second frame is got at this time; whether it takes the reply that begins at 17 + 2000. */
    private static boolean takesReplyOf2000(int time) {
        RegisterGateway x = Scenes.late(2000);
        x.step();
        x.pass(time - 12 - 42);
        x.step();
        return x.count(2) == 1;
    }

    /** Description, Devices: "3 the delay is greater by this number for this reply". */
    private static void latestReply() {
        CHECK.due("it begins at 2017", takesReplyOf2000(2017), true);
        CHECK.due("and not later", takesReplyOf2000(2018), false);
        CHECK.due("with the reply that is due", takesReplyOf2000(2012), true);
        CHECK.due("behind the reply that is due", takesReplyOf2000(2011), false);
    }

    /** Description, Devices: "4 the device is busy: it does nothing and replies with the exception 6". */
    private static void busyDevice() {
        for (int number : new int[] {0, 2000}) {
            RegisterGateway x = new RegisterGateway();
            x.fault(1, 4, number);
            x.write(0, 1, 0, 8);
            x.step();
            CHECK.due("code", x.request(0, 6), 6);
            CHECK.due("time", x.request(0, 7), 12 + 5 + 5);
            CHECK.due("nothing is written", x.peek(1, 0), 0);
            x.fault(1, 4, number);
            x.read(0, 1, 1000, 16);
            x.step();
            CHECK.due("it does not look at the registers either", x.request(1, 6), 6);
        }
    }

    public static void main(String[] args) {
        CHECK.runAll(DeviceEdgesTest.class);
    }
}
