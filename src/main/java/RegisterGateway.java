import java.util.ArrayList;
import java.util.Arrays;

/**
 * A gateway to registers of devices on a serial line, and a listener that finds frames in a stream
 * of bytes. The face checks arguments; {@link Core} holds what a step reads and changes, apart from
 * the face, so that leastDrain can try steps on a copy of it.
 */
public final class RegisterGateway {
    private static final int CLIENTS = 4;
    private static final int DEVICES = 3;
    private static final int REGISTERS = 32;
    private static final int GREATEST_WORD = 65535;
    private static final int GREATEST_DELAY = 1000;
    private static final int MOST_FAULTS = 6;
    private static final int GREATEST_FAULT_NUMBER = 2000;
    private static final int MOST_REQUESTS = 40;
    private static final int LAST_START = 1000;
    private static final int MOST_READ = 16;
    private static final int MOST_WRITTEN = 8;
    private static final int MOST_TICKS = 10000;
    private static final int LATEST_TIME = 10000000;
    private static final int MOST_DRAIN_TRIED = 40;

    private static final int LIFETIME = 0;
    private static final int TIMEOUT = 1;
    private static final int RETRIES = 2;
    private static final int DRAIN = 3;
    private static final int JOINING = 4;
    private static final int SETTINGS = 5;
    private static final int[] LEAST_SETTING = {0, 1, 0, 0, 0};
    private static final int[] GREATEST_SETTING = {10000, 1000, 3, 1000, 1};

    private static final int WAITING = 0;
    private static final int DONE = 1;
    private static final int FAILED = 2;
    private static final int STATES = 3;

    private static final int FRAMES_SENT = 0;
    private static final int REPLIES_TAKEN = 1;
    private static final int FALSE_REPLIES = 2;
    private static final int TIMEOUTS = 3;
    private static final int CACHE_ANSWERS = 4;
    private static final int JOINED = 5;
    private static final int COUNTERS = 6;

    private static final int FUNCTION_READ = 3;
    private static final int FUNCTION_WRITE_ONE = 6;
    private static final int FUNCTION_WRITE_MANY = 16;
    private static final int EXCEPTION_MARK = 128;
    private static final int CODE_NO_REGISTER = 2;
    private static final int CODE_TOO_GREAT = 3;
    private static final int CODE_BUSY = 6;
    private static final int CODE_NO_REPLY = 11;

    private static final int FAULT_LOST = 1;
    private static final int FAULT_DAMAGED = 2;
    private static final int FAULT_LATE = 3;
    private static final int FAULT_BUSY = 4;

    private static final int SILENCE = 4;
    private static final int BREAKING_GAP = 2;
    private static final int FIRST_SUM = 65535;
    private static final int SUM_BYTES = 2;
    /** A reply to a read of 16 registers: device, function, byte count, 32 bytes, checksum. */
    private static final int LONGEST_FRAME = 37;
    private static final int FRAMES_KEPT = 10;
    private static final int SHORTEST_HEARD = 4;
    private static final int LONGEST_HEARD = 30;

    private final Core core;
    private final Listener listener;
    /** Made by the first leastDrain and used again, since most objects never need it. */
    private Core trial;

    public RegisterGateway() {
        core = new Core();
        listener = new Listener();
    }

    // ---- settings, devices

    public int set(int setting, int value) throws IndexOutOfBoundsException, IllegalArgumentException {
        if (setting < 0 || setting >= SETTINGS) {
            throw new IndexOutOfBoundsException("no such setting");
        }
        needInRange(value, LEAST_SETTING[setting], GREATEST_SETTING[setting]);
        int previous = core.settings[setting];
        core.settings[setting] = value;
        return previous;
    }

    public int setDevice(int device, int property, int value)
            throws IndexOutOfBoundsException, IllegalArgumentException {
        needDevice(device);
        if (property < 0 || property > 1) {
            throw new IndexOutOfBoundsException("no such property");
        }
        needInRange(value, 0, property == 0 ? GREATEST_DELAY : GREATEST_WORD);
        Device changed = core.devices[device - 1];
        int previous = property == 0 ? changed.delay : changed.greatest;
        if (property == 0) {
            changed.delay = value;
        } else {
            changed.greatest = value;
        }
        return previous;
    }

    public int poke(int device, int register, int value)
            throws IndexOutOfBoundsException, IllegalArgumentException {
        needRegister(device, register);
        needInRange(value, 0, GREATEST_WORD);
        int[] registers = core.devices[device - 1].registers;
        int previous = registers[register];
        registers[register] = value;
        return previous;
    }

    public int peek(int device, int register) throws IndexOutOfBoundsException {
        needRegister(device, register);
        return core.devices[device - 1].registers[register];
    }

    public boolean protect(int device, int register, boolean on) throws IndexOutOfBoundsException {
        needRegister(device, register);
        Device changed = core.devices[device - 1];
        boolean previous = changed.isReadOnly(register);
        int bit = 1 << register;
        changed.readOnly = on ? changed.readOnly | bit : changed.readOnly & ~bit;
        return previous;
    }

    public int fault(int device, int kind, int number)
            throws IndexOutOfBoundsException, IllegalArgumentException, IllegalStateException {
        needDevice(device);
        needInRange(kind, FAULT_LOST, FAULT_BUSY);
        needInRange(number, 0, GREATEST_FAULT_NUMBER);
        Device faulty = core.devices[device - 1];
        if (faulty.faults >= MOST_FAULTS) {
            throw new IllegalStateException("the device has all the faults it can have");
        }
        faulty.appendFault(kind, number);
        return faulty.faults;
    }

    // ---- requests

    public int read(int client, int device, int start, int count)
            throws IndexOutOfBoundsException, IllegalArgumentException, IllegalStateException {
        needClient(client);
        needDevice(device);
        needInRange(start, 0, LAST_START);
        needInRange(count, 1, MOST_READ);
        needRoomForRequest();
        return core.queue.append(new Request(client, device, start, count, false));
    }

    public int write(int client, int device, int register, int value)
            throws IndexOutOfBoundsException, IllegalArgumentException, IllegalStateException {
        needClient(client);
        needDevice(device);
        needInRange(register, 0, LAST_START);
        needInRange(value, 0, GREATEST_WORD);
        needRoomForRequest();
        Request made = new Request(client, device, register, 1, true);
        made.values[0] = value;
        return core.queue.append(made);
    }

    public int request(int request, int what) throws IndexOutOfBoundsException {
        Request asked = neededRequest(request);
        switch (what) {
            case 0:
                return asked.client;
            case 1:
                return asked.device;
            case 2:
                return asked.start;
            case 3:
                return asked.count;
            case 4:
                return asked.isWrite ? 1 : 0;
            case 5:
                return asked.state;
            case 6:
                return asked.code;
            case 7:
                return asked.endTime;
            case 8:
                return asked.fromCache ? 1 : 0;
            default:
                throw new IndexOutOfBoundsException("nothing of this number is known of a request");
        }
    }

    public int value(int request, int k) throws IndexOutOfBoundsException, IllegalStateException {
        Request asked = neededRequest(request);
        if (k < 0 || k >= asked.count) {
            throw new IndexOutOfBoundsException("the request has no such value");
        }
        if (!asked.isReadDone()) {
            throw new IllegalStateException("the request is no read that is done");
        }
        return asked.values[k];
    }

    public int requests(int state) throws IndexOutOfBoundsException {
        needState(state);
        int found = 0;
        for (int client = 0; client < CLIENTS; client++) {
            found += core.queue.countOf(client, state);
        }
        return found;
    }

    public int requestsOf(int client, int state) throws IndexOutOfBoundsException {
        needClient(client);
        needState(state);
        return core.queue.countOf(client, state);
    }

    // ---- steps

    public int step() {
        return core.takeStep();
    }

    public int finish() {
        int ended = core.takeStep();
        for (int steps = 1; steps < MOST_REQUESTS && ended > 0; steps++) {
            ended = core.takeStep();
        }
        return core.now;
    }

    public int pass(int ticks) throws IllegalArgumentException, IllegalStateException {
        needInRange(ticks, 0, MOST_TICKS);
        if (core.now > LATEST_TIME - ticks) {
            throw new IllegalStateException("the time would become too great");
        }
        core.now += ticks;
        return core.now;
    }

    public int time() {
        return core.now;
    }

    public long group() {
        core.plan();
        return core.queue.members;
    }

    public int frameByte(int k) throws IndexOutOfBoundsException {
        if (k < 0) {
            throw new IndexOutOfBoundsException("a negative index");
        }
        core.plan();
        return k < core.frame.size ? core.frame.byteAt(k) : -1;
    }

    public int cacheAge(int device, int register) throws IndexOutOfBoundsException {
        needRegister(device, register);
        return core.cache.ageOf(device, register, core.now);
    }

    public int cached(int device, int register) throws IndexOutOfBoundsException {
        needRegister(device, register);
        return core.cache.valueOf(device, register);
    }

    public int clearCache() {
        return core.cache.empty();
    }

    public int count(int what) throws IndexOutOfBoundsException {
        if (what < 0 || what >= COUNTERS) {
            throw new IndexOutOfBoundsException("nothing of this number is counted");
        }
        return core.counts[what];
    }

    public int leastDrain(int most) throws IllegalArgumentException {
        needInRange(most, 0, MOST_DRAIN_TRIED);
        if (trial == null) {
            trial = new Core();
        }
        for (int drain = 0; drain <= most; drain++) {
            trial.copyFrom(core);
            trial.settings[DRAIN] = drain;
            int ended = trial.takeStep();
            for (int steps = 1; steps < MOST_REQUESTS && ended > 0 && !trial.tookFalseReply; steps++) {
                ended = trial.takeStep();
            }
            if (!trial.tookFalseReply) {
                return drain;
            }
        }
        return -1;
    }

    // ---- listener

    public int feed(int b, int gap) throws IllegalArgumentException {
        needInRange(b, 0, 255);
        needInRange(gap, 0, 1000);
        listener.hear(b, gap);
        return listener.size;
    }

    public int endFrame() {
        listener.close();
        return listener.ended;
    }

    public int verdict(int i) throws IndexOutOfBoundsException {
        needHeardIndex(i);
        return listener.isKept(i) ? listener.verdicts[listener.placeOf(i)] : -1;
    }

    public int length(int i) throws IndexOutOfBoundsException {
        needHeardIndex(i);
        return listener.isKept(i) ? listener.sizes[listener.placeOf(i)] : -1;
    }

    public int checksum() {
        return listener.sum;
    }

    public long fingerprint() {
        long print = mix(73, core.now);
        for (int what = 0; what < COUNTERS; what++) {
            print = mix(print, count(what));
        }
        for (int state = 0; state < STATES; state++) {
            print = mix(print, requests(state));
        }
        for (int i = 0; i < core.queue.requests.size(); i++) {
            print = mixRequest(print, core.queue.requests.get(i));
        }
        for (int device = 1; device <= DEVICES; device++) {
            for (int register = 0; register < REGISTERS; register++) {
                print = mix(print, core.devices[device - 1].registers[register]);
                print = mix(print, core.cache.valueOf(device, register));
            }
        }
        return print;
    }

    private static long mix(long print, int number) {
        return 31 * print + number;
    }

    private static long mixRequest(long before, Request request) {
        long print = mix(before, request.state);
        print = mix(print, request.code);
        print = mix(print, request.endTime);
        if (request.isReadDone()) {
            for (int k = 0; k < request.count; k++) {
                print = mix(print, request.values[k]);
            }
        }
        return print;
    }

    // ---- what arguments must be

    private static void needInRange(int number, int least, int greatest) {
        if (number < least || number > greatest) {
            throw new IllegalArgumentException("a number out of its range");
        }
    }

    private static void needClient(int client) {
        if (client < 0 || client >= CLIENTS) {
            throw new IndexOutOfBoundsException("no such client");
        }
    }

    private static void needDevice(int device) {
        if (device < 1 || device > DEVICES) {
            throw new IndexOutOfBoundsException("no such device");
        }
    }

    private static void needRegister(int device, int register) {
        needDevice(device);
        if (register < 0 || register >= REGISTERS) {
            throw new IndexOutOfBoundsException("no such register");
        }
    }

    private static void needState(int state) {
        if (state < 0 || state >= STATES) {
            throw new IndexOutOfBoundsException("no such state");
        }
    }

    private static void needHeardIndex(int i) {
        if (i < 0) {
            throw new IndexOutOfBoundsException("a negative index");
        }
    }

    private void needRoomForRequest() {
        if (core.queue.requests.size() >= MOST_REQUESTS) {
            throw new IllegalStateException("no more requests can be made");
        }
    }

    private Request neededRequest(int number) {
        if (number < 0 || number >= core.queue.requests.size()) {
            throw new IndexOutOfBoundsException("no such request");
        }
        return core.queue.requests.get(number);
    }

    private static int nextSum(int sum, int b) {
        int next = sum ^ b;
        for (int bit = 0; bit < 8; bit++) {
            next = (next & 1) == 1 ? (next >> 1) ^ 40961 : next >> 1;
        }
        return next;
    }

    /** All that steps read and change. */
    private static final class Core {
        final int[] settings = {50, 30, 1, 0, 1};
        final int[] counts = new int[COUNTERS];
        final Device[] devices = {new Device(), new Device(), new Device()};
        final Cache cache = new Cache();
        final Queue queue = new Queue();
        final Line line = new Line();
        /** The frame of the planned group; without bytes if none would be sent. */
        final Frame frame = new Frame();
        int now = 0;
        /** How many frames were tried, repeated attempts not counted: tells a frame from others. */
        int tried = 0;
        boolean latestMissed = false;
        /** Of a trial, since its copy was made. */
        boolean tookFalseReply = false;

        void copyFrom(Core other) {
            System.arraycopy(other.settings, 0, settings, 0, SETTINGS);
            System.arraycopy(other.counts, 0, counts, 0, COUNTERS);
            for (int i = 0; i < DEVICES; i++) {
                devices[i].copyFrom(other.devices[i]);
            }
            cache.copyFrom(other.cache);
            queue.copyFrom(other.queue);
            line.copyFrom(other.line);
            now = other.now;
            tried = other.tried;
            latestMissed = other.latestMissed;
            tookFalseReply = false;
        }

        /** Finds what the next step would handle and, if it would send a frame, the frame. */
        void plan() {
            frame.size = 0;
            Request first = queue.openGroup();
            if (first == null || cacheAnswers(first)) {
                return;
            }
            if (settings[JOINING] == 1) {
                queue.gather();
            }
            if (queue.isWrite) {
                buildWriteFrame();
            } else {
                frame.open(queue.device, FUNCTION_READ);
                frame.putWord(queue.start);
                frame.putWord(queue.width());
            }
            frame.seal();
        }

        private boolean cacheAnswers(Request request) {
            if (request.isWrite) {
                return false;
            }
            for (int register = request.start; register < request.end; register++) {
                if (!cache.isFresh(request.device, register, now, settings[LIFETIME])) {
                    return false;
                }
            }
            return true;
        }

        private void buildWriteFrame() {
            int width = queue.width();
            frame.open(queue.device, width == 1 ? FUNCTION_WRITE_ONE : FUNCTION_WRITE_MANY);
            frame.putWord(queue.start);
            if (width > 1) {
                frame.putWord(width);
                frame.putByte(2 * width);
            }
            for (int register = queue.start; register < queue.end; register++) {
                frame.putWord(queue.valueToWrite(register));
            }
        }

        /** Returns how many requests were done or failed. */
        int takeStep() {
            plan();
            int handled = Long.bitCount(queue.members);
            if (handled == 0) {
                return 0;
            }
            if (frame.size == 0) {
                counts[CACHE_ANSWERS]++;
                endFromCache(queue.requests.get(queue.first));
                return handled;
            }
            counts[JOINED] += handled - 1;
            Reply taken = tryFrame(devices[queue.device - 1]);
            if (taken == null) {
                failGroup(CODE_NO_REPLY);
                return handled;
            }
            if (taken.frame.isException()) {
                failGroup(taken.frame.byteAt(2));
            } else {
                finishGroup(taken.frame);
            }
            line.recycle(taken);
            return handled;
        }

        private void endFromCache(Request request) {
            for (int k = 0; k < request.count; k++) {
                request.values[k] = cache.valueOf(request.device, request.start + k);
            }
            request.fromCache = true;
            request.settle(DONE, 0, now);
        }

        private Reply tryFrame(Device device) {
            if (latestMissed) {
                now += settings[DRAIN];
            }
            tried++;
            for (int attempt = 0; attempt <= settings[RETRIES]; attempt++) {
                now += SILENCE + frame.size;
                counts[FRAMES_SENT]++;
                line.dropBefore(now);
                Reply made = line.freeReply();
                made.cause = tried;
                if (device.answer(frame, now, made)) {
                    line.replies.add(made);
                } else {
                    line.recycle(made);
                }
                Reply taken = line.take(frame, now + settings[TIMEOUT]);
                latestMissed = taken == null;
                if (taken != null) {
                    noteTaken(taken);
                    return taken;
                }
                now += settings[TIMEOUT];
                counts[TIMEOUTS]++;
            }
            return null;
        }

        private void noteTaken(Reply taken) {
            now = taken.begin + taken.frame.size;
            counts[REPLIES_TAKEN]++;
            if (taken.cause != tried) {
                counts[FALSE_REPLIES]++;
                tookFalseReply = true;
            }
        }

        private void failGroup(int code) {
            for (int i = queue.first; i < queue.requests.size(); i++) {
                if (queue.isMember(i)) {
                    queue.requests.get(i).settle(FAILED, code, now);
                }
            }
            if (queue.isWrite) {
                for (int register = queue.start; register < queue.end; register++) {
                    cache.forget(queue.device, register);
                }
            }
        }

        private void finishGroup(Frame reply) {
            for (int register = queue.start; register < queue.end; register++) {
                int value = queue.isWrite ? queue.valueToWrite(register)
                        : reply.readValue(register - queue.start);
                cache.put(queue.device, register, value, now);
            }
            for (int i = queue.first; i < queue.requests.size(); i++) {
                if (queue.isMember(i)) {
                    Request member = queue.requests.get(i);
                    if (!member.isWrite) {
                        member.takeValues(reply, member.start - queue.start);
                    }
                    member.settle(DONE, 0, now);
                }
            }
        }
    }

    private static final class Request {
        final int client;
        final int device;
        final int start;
        final int count;
        /** The register behind its last one. */
        final int end;
        final boolean isWrite;
        /** Of a write, the value to be written; of a read, what it got. */
        final int[] values;
        int state = WAITING;
        int code = 0;
        int endTime = -1;
        boolean fromCache = false;

        Request(int client, int device, int start, int count, boolean isWrite) {
            this.client = client;
            this.device = device;
            this.start = start;
            this.count = count;
            this.end = start + count;
            this.isWrite = isWrite;
            values = new int[Math.max(1, Math.min(count, MOST_READ))];
        }

        boolean isReadDone() {
            return !isWrite && state == DONE;
        }

        boolean overlaps(Request other) {
            return start < other.end && other.start < end;
        }

        void settle(int newState, int newCode, int time) {
            state = newState;
            code = newCode;
            endTime = time;
        }

        void takeValues(Frame reply, int offset) {
            for (int k = 0; k < count; k++) {
                values[k] = reply.readValue(offset + k);
            }
        }
    }

    /** The requests, and the group that the next step would handle. */
    private static final class Queue {
        final ArrayList<Request> requests = new ArrayList<>();
        long members = 0;
        int first = 0;
        int device = 1;
        boolean isWrite = false;
        int start = 0;
        int end = 0;

        /** What a trial needs: the values of reads that have ended stay out of it. */
        void copyFrom(Queue other) {
            for (int i = 0; i < other.requests.size(); i++) {
                Request from = other.requests.get(i);
                if (i >= requests.size()) {
                    requests.add(new Request(from.client, from.device, from.start, from.count, from.isWrite));
                }
                Request to = requests.get(i);
                to.settle(from.state, from.code, from.endTime);
                if (from.isWrite) {
                    to.values[0] = from.values[0];
                }
            }
        }

        int append(Request request) {
            requests.add(request);
            return requests.size() - 1;
        }

        int countOf(int client, int state) {
            int found = 0;
            for (int i = 0; i < requests.size(); i++) {
                Request request = requests.get(i);
                if (request.client == client && request.state == state) {
                    found++;
                }
            }
            return found;
        }

        boolean isMember(int i) {
            return (members >>> i & 1) == 1;
        }

        int width() {
            return end - start;
        }

        /** Begins a group with the first waiting request and returns it; null if none is waiting. */
        Request openGroup() {
            members = 0;
            for (int i = 0; i < requests.size(); i++) {
                Request request = requests.get(i);
                if (request.state == WAITING) {
                    members = 1L << i;
                    first = i;
                    device = request.device;
                    isWrite = request.isWrite;
                    start = request.start;
                    end = request.end;
                    return request;
                }
            }
            return null;
        }

        void gather() {
            for (int i = first + 1; i < requests.size(); i++) {
                Request request = requests.get(i);
                if (fitsBeside(request) && !isBarred(i, request)) {
                    members |= 1L << i;
                    start = Math.min(start, request.start);
                    end = Math.max(end, request.end);
                }
            }
        }

        private boolean fitsBeside(Request request) {
            if (request.state != WAITING || request.device != device || request.isWrite != isWrite) {
                return false;
            }
            if (request.start > end || request.end < start) {
                return false;
            }
            int together = Math.max(end, request.end) - Math.min(start, request.start);
            return together <= (isWrite ? MOST_WRITTEN : MOST_READ);
        }

        /** Joining would let the request overtake an earlier one whose order with it matters. */
        private boolean isBarred(int number, Request request) {
            for (int i = 0; i < number; i++) {
                Request earlier = requests.get(i);
                if (earlier.state == WAITING && earlier.device == device && !isMember(i)
                        && earlier.overlaps(request) && (earlier.isWrite || request.isWrite)) {
                    return true;
                }
            }
            return false;
        }

        /** The latest member wins, as if the writes had been sent one by one. */
        int valueToWrite(int register) {
            for (int i = requests.size() - 1; i >= first; i--) {
                Request request = requests.get(i);
                if (isMember(i) && request.start == register) {
                    return request.values[0];
                }
            }
            return 0;
        }
    }

    private static final class Cache {
        final int[] values = new int[DEVICES * REGISTERS];
        final int[] times = new int[DEVICES * REGISTERS];

        Cache() {
            Arrays.fill(values, -1);
        }

        void copyFrom(Cache other) {
            System.arraycopy(other.values, 0, values, 0, DEVICES * REGISTERS);
            System.arraycopy(other.times, 0, times, 0, DEVICES * REGISTERS);
        }

        /** -1 for a register that does not exist: requests may name such registers. */
        private static int placeOf(int device, int register) {
            if (device < 1 || device > DEVICES || register < 0 || register >= REGISTERS) {
                return -1;
            }
            return (device - 1) * REGISTERS + register;
        }

        int valueOf(int device, int register) {
            int place = placeOf(device, register);
            return place < 0 ? -1 : values[place];
        }

        int ageOf(int device, int register, int now) {
            int place = placeOf(device, register);
            return place < 0 || values[place] < 0 ? -1 : now - times[place];
        }

        boolean isFresh(int device, int register, int now, int lifetime) {
            int age = ageOf(device, register, now);
            return age >= 0 && age <= lifetime;
        }

        void put(int device, int register, int value, int now) {
            int place = placeOf(device, register);
            if (place >= 0) {
                values[place] = value;
                times[place] = now;
            }
        }

        void forget(int device, int register) {
            put(device, register, -1, 0);
        }

        int empty() {
            int found = 0;
            for (int place = 0; place < values.length; place++) {
                if (values[place] >= 0) {
                    found++;
                }
                values[place] = -1;
            }
            return found;
        }
    }

    private static final class Device {
        final int[] registers = new int[REGISTERS];
        final int[] faultKinds = new int[MOST_FAULTS];
        final int[] faultNumbers = new int[MOST_FAULTS];
        int faults = 0;
        /** Bit r for register r. */
        int readOnly = 0;
        int greatest = GREATEST_WORD;
        int delay = 5;

        void copyFrom(Device other) {
            System.arraycopy(other.registers, 0, registers, 0, REGISTERS);
            System.arraycopy(other.faultKinds, 0, faultKinds, 0, MOST_FAULTS);
            System.arraycopy(other.faultNumbers, 0, faultNumbers, 0, MOST_FAULTS);
            faults = other.faults;
            readOnly = other.readOnly;
            greatest = other.greatest;
            delay = other.delay;
        }

        boolean isReadOnly(int register) {
            return (readOnly >>> register & 1) == 1;
        }

        void appendFault(int kind, int number) {
            if (faults < MOST_FAULTS) {
                faultKinds[faults] = kind;
                faultNumbers[faults] = number;
                faults++;
            }
        }

        private void dropFirstFault() {
            for (int i = 1; i < faults; i++) {
                faultKinds[i - 1] = faultKinds[i];
                faultNumbers[i - 1] = faultNumbers[i];
            }
            faults--;
        }

        /** Gets a frame at a time and makes the reply; returns false if the reply is lost. */
        boolean answer(Frame sent, int time, Reply reply) {
            int kind = 0;
            int number = 0;
            if (faults > 0) {
                kind = faultKinds[0];
                number = faultNumbers[0];
                dropFirstFault();
            }
            int code = kind == FAULT_BUSY ? CODE_BUSY : refusalOf(sent);
            if (code == 0) {
                obey(sent, reply.frame);
            } else {
                reply.frame.open(sent.byteAt(0), sent.byteAt(1) + EXCEPTION_MARK);
                reply.frame.putByte(code);
            }
            reply.frame.seal();
            if (kind == FAULT_DAMAGED) {
                reply.frame.invertLowestBit(number);
            }
            reply.begin = time + delay + (kind == FAULT_LATE ? number : 0);
            return kind != FAULT_LOST;
        }

        /** The exception's code; 0 if the device does what the frame says. */
        private int refusalOf(Frame sent) {
            int begin = sent.startRegister();
            int count = sent.registerCount();
            if (begin < 0 || begin + count > REGISTERS) {
                return CODE_NO_REGISTER;
            }
            if (sent.byteAt(1) == FUNCTION_READ) {
                return 0;
            }
            boolean tooGreat = false;
            for (int k = 0; k < count; k++) {
                if (isReadOnly(begin + k)) {
                    return CODE_NO_REGISTER;
                }
                tooGreat = tooGreat || sent.writtenValue(k) > greatest;
            }
            return tooGreat ? CODE_TOO_GREAT : 0;
        }

        private void obey(Frame sent, Frame reply) {
            int function = sent.byteAt(1);
            int begin = sent.startRegister();
            int count = sent.registerCount();
            reply.open(sent.byteAt(0), function);
            if (function == FUNCTION_READ) {
                reply.putByte(2 * count);
            } else {
                reply.putWord(begin);
                reply.putWord(sent.wordAt(4));
            }
            for (int k = 0; k < count && begin + k < REGISTERS; k++) {
                if (function == FUNCTION_READ) {
                    reply.putWord(registers[begin + k]);
                } else {
                    registers[begin + k] = sent.writtenValue(k);
                }
            }
        }
    }

    /** The bytes of a frame, and what stands where in the frames of the three functions. */
    private static final class Frame {
        final int[] bytes = new int[LONGEST_FRAME];
        int size = 0;

        void copyFrom(Frame other) {
            System.arraycopy(other.bytes, 0, bytes, 0, LONGEST_FRAME);
            size = other.size;
        }

        void open(int device, int function) {
            size = 0;
            putByte(device);
            putByte(function);
        }

        void putByte(int b) {
            if (size < LONGEST_FRAME) {
                bytes[size] = b & 255;
                size++;
            }
        }

        void putWord(int word) {
            putByte(word >> 8);
            putByte(word);
        }

        void seal() {
            int sum = sumOf(size);
            putByte(sum);
            putByte(sum >> 8);
        }

        private int sumOf(int many) {
            int sum = FIRST_SUM;
            for (int i = 0; i < many && i < LONGEST_FRAME; i++) {
                sum = nextSum(sum, bytes[i]);
            }
            return sum;
        }

        void invertLowestBit(int index) {
            if (size > 0) {
                bytes[Math.floorMod(index, size)] ^= 1;
            }
        }

        int byteAt(int i) {
            return i >= 0 && i < size ? bytes[i] : 0;
        }

        int wordAt(int i) {
            return i >= 0 && i < size - 1 ? bytes[i] << 8 | bytes[i + 1] : 0;
        }

        int startRegister() {
            return wordAt(2);
        }

        int registerCount() {
            return byteAt(1) == FUNCTION_WRITE_ONE ? 1 : wordAt(4);
        }

        int writtenValue(int k) {
            return byteAt(1) == FUNCTION_WRITE_ONE ? wordAt(4) : wordAt(7 + 2 * k);
        }

        int readValue(int k) {
            return wordAt(3 + 2 * k);
        }

        boolean isException() {
            return byteAt(1) >= EXCEPTION_MARK;
        }

        /** The checksum is looked at last only because it takes longest. */
        boolean isReplyTo(Frame sent) {
            if (byteAt(0) != sent.byteAt(0)) {
                return false;
            }
            int function = sent.byteAt(1);
            if (byteAt(1) != function + EXCEPTION_MARK) {
                boolean sameData = function == FUNCTION_READ ? byteAt(2) == 2 * sent.wordAt(4)
                        : wordAt(2) == sent.wordAt(2) && wordAt(4) == sent.wordAt(4);
                if (byteAt(1) != function || !sameData) {
                    return false;
                }
            }
            int content = size - SUM_BYTES;
            return sumOf(content) == (byteAt(content) | byteAt(content + 1) << 8);
        }
    }

    private static final class Reply {
        final Frame frame = new Frame();
        int begin = 0;
        /** The number of the tried frame that it answers. */
        int cause = 0;

        void copyFrom(Reply other) {
            frame.copyFrom(other.frame);
            begin = other.begin;
            cause = other.cause;
        }
    }

    /** The replies that have been sent and not looked at; replies that are gone are used again. */
    private static final class Line {
        /** In the order in which they were sent. */
        final ArrayList<Reply> replies = new ArrayList<>();
        final ArrayList<Reply> spare = new ArrayList<>();

        void copyFrom(Line other) {
            for (int i = replies.size() - 1; i >= 0; i--) {
                recycle(replies.remove(i));
            }
            for (int i = 0; i < other.replies.size(); i++) {
                Reply copy = freeReply();
                copy.copyFrom(other.replies.get(i));
                replies.add(copy);
            }
        }

        void recycle(Reply reply) {
            spare.add(reply);
        }

        Reply freeReply() {
            return spare.isEmpty() ? new Reply() : spare.remove(spare.size() - 1);
        }

        void dropBefore(int time) {
            for (int i = replies.size() - 1; i >= 0; i--) {
                if (replies.get(i).begin < time) {
                    recycle(replies.remove(i));
                }
            }
        }

        /** Looks at the replies that begin until a time; the caller recycles the one it gets. */
        Reply take(Frame sent, int until) {
            int most = replies.size();
            for (int looks = 0; looks < most; looks++) {
                int next = earliest(until);
                if (next < 0) {
                    return null;
                }
                Reply reply = replies.remove(next);
                if (reply.frame.isReplyTo(sent)) {
                    return reply;
                }
                recycle(reply);
            }
            return null;
        }

        private int earliest(int until) {
            int found = -1;
            int begin = until + 1;
            for (int i = 0; i < replies.size(); i++) {
                if (replies.get(i).begin < begin) {
                    found = i;
                    begin = replies.get(i).begin;
                }
            }
            return found;
        }
    }

    /** Only the size and the running checksum are kept: with its checksum behind it, a frame sums to 0. */
    private static final class Listener {
        final int[] verdicts = new int[FRAMES_KEPT];
        final int[] sizes = new int[FRAMES_KEPT];
        int ended = 0;
        int size = 0;
        int sum = FIRST_SUM;
        boolean broken = false;

        void hear(int b, int gap) {
            if (gap >= SILENCE) {
                close();
            } else if (gap >= BREAKING_GAP && size > 0) {
                broken = true;
            }
            sum = nextSum(sum, b);
            size++;
        }

        void close() {
            if (size == 0) {
                return;
            }
            int place = Math.floorMod(ended, FRAMES_KEPT);
            verdicts[place] = judge();
            sizes[place] = size;
            ended++;
            size = 0;
            sum = FIRST_SUM;
            broken = false;
        }

        private int judge() {
            if (size < SHORTEST_HEARD) {
                return 1;
            }
            if (size > LONGEST_HEARD) {
                return 2;
            }
            if (broken) {
                return 3;
            }
            return sum == 0 ? 0 : 4;
        }

        boolean isKept(int i) {
            return i >= 0 && i < FRAMES_KEPT && i < ended;
        }

        int placeOf(int i) {
            return Math.floorMod(ended - 1 - i, FRAMES_KEPT);
        }
    }
}
