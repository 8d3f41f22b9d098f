import java.util.ArrayList;
import java.util.Arrays;
import java.util.List;
import java.util.Map;
import java.util.TreeMap;
import java.util.TreeSet;

/**
 * The document once more, as plainly as it can be said, with the Java library and without a thought
 * of speed or room: what RandomRunsTest holds the class against. It checks no arguments.
 */
final class PlainModel {
    record Fault(int kind, int number) { }

    record Cached(int value, int time) { }

    record OnLine(int sentAs, int begin, List<Integer> bytes, int frameNumber) { }

    record Heard(int verdict, int length) { }

    static final class Device {
        final int[] registers = new int[32];
        final TreeSet<Integer> readOnly = new TreeSet<>();
        final List<Fault> faults = new ArrayList<>();
        int greatest = 65535;
        int delay = 5;
    }

    static final class Asked {
        int client;
        int device;
        int start;
        int count;
        boolean isWrite;
        int toWrite;
        int state;
        int code;
        int time = -1;
        boolean fromCache;
        List<Integer> values = new ArrayList<>();

        TreeSet<Integer> range() {
            TreeSet<Integer> range = new TreeSet<>();
            for (int r = start; r < start + count; r++) {
                range.add(r);
            }
            return range;
        }
    }

    int lifetime = 50;
    int timeout = 30;
    int retries = 1;
    int drain = 0;
    int joining = 1;
    int time = 0;
    final int[] counts = new int[6];
    final Map<Integer, Device> devices = new TreeMap<>();
    final List<Asked> asked = new ArrayList<>();
    final Map<Integer, Cached> cache = new TreeMap<>();
    List<OnLine> line = new ArrayList<>();
    int replies = 0;
    int frameNumber = 0;
    boolean sentBefore = false;
    boolean takenInLatest = false;
    final List<Integer> hearing = new ArrayList<>();
    boolean broken = false;
    final List<Heard> heard = new ArrayList<>();

    PlainModel() {
        for (int d = 1; d <= 3; d++) {
            devices.put(d, new Device());
        }
    }

    PlainModel copy() {
        PlainModel c = new PlainModel();
        c.lifetime = lifetime;
        c.timeout = timeout;
        c.retries = retries;
        c.drain = drain;
        c.joining = joining;
        c.time = time;
        System.arraycopy(counts, 0, c.counts, 0, 6);
        for (int d = 1; d <= 3; d++) {
            Device from = devices.get(d);
            Device to = c.devices.get(d);
            System.arraycopy(from.registers, 0, to.registers, 0, 32);
            to.readOnly.addAll(from.readOnly);
            to.faults.addAll(from.faults);
            to.greatest = from.greatest;
            to.delay = from.delay;
        }
        for (Asked a : asked) {
            Asked b = new Asked();
            b.client = a.client;
            b.device = a.device;
            b.start = a.start;
            b.count = a.count;
            b.isWrite = a.isWrite;
            b.toWrite = a.toWrite;
            b.state = a.state;
            b.code = a.code;
            b.time = a.time;
            b.fromCache = a.fromCache;
            b.values.addAll(a.values);
            c.asked.add(b);
        }
        c.cache.putAll(cache);
        c.line.addAll(line);
        c.replies = replies;
        c.frameNumber = frameNumber;
        c.sentBefore = sentBefore;
        c.takenInLatest = takenInLatest;
        return c;
    }

    static int sum(List<Integer> bytes) {
        int sum = 65535;
        for (int b : bytes) {
            sum ^= b;
            for (int i = 0; i < 8; i++) {
                boolean one = (sum & 1) == 1;
                sum >>= 1;
                if (one) {
                    sum ^= 40961;
                }
            }
        }
        return sum;
    }

    static List<Integer> frame(int device, int function, int[] data) {
        List<Integer> bytes = new ArrayList<>(List.of(device, function));
        for (int b : data) {
            bytes.add(b);
        }
        int sum = sum(bytes);
        bytes.add(sum % 256);
        bytes.add(sum / 256);
        return bytes;
    }

    static int word(List<Integer> bytes, int i) {
        return bytes.get(i) * 256 + bytes.get(i + 1);
    }

    /** Words and single bytes (given as -1 - byte) as bytes. */
    static int[] data(int... parts) {
        return Arrays.stream(parts)
                .flatMap(p -> p < 0 ? Arrays.stream(new int[] {-1 - p}) : Arrays.stream(new int[] {p / 256, p % 256}))
                .toArray();
    }

    static int oneByte(int b) {
        return -1 - b;
    }

    int set(int setting, int value) {
        int old = new int[] {lifetime, timeout, retries, drain, joining}[setting];
        switch (setting) {
            case 0 -> lifetime = value;
            case 1 -> timeout = value;
            case 2 -> retries = value;
            case 3 -> drain = value;
            default -> joining = value;
        }
        return old;
    }

    int ask(int client, int device, int start, int count, boolean isWrite, int toWrite) {
        Asked a = new Asked();
        a.client = client;
        a.device = device;
        a.start = start;
        a.count = count;
        a.isWrite = isWrite;
        a.toWrite = toWrite;
        asked.add(a);
        return asked.size() - 1;
    }

    int countOf(int client, int state) {
        return (int) asked.stream().filter(a -> (client < 0 || a.client == client) && a.state == state).count();
    }

    int firstWaiting() {
        for (int i = 0; i < asked.size(); i++) {
            if (asked.get(i).state == 0) {
                return i;
            }
        }
        return -1;
    }

    boolean fromCache(Asked a) {
        return !a.isWrite && a.range().stream().allMatch(r -> {
            Cached c = cached(a.device, r);
            return c != null && time - c.time <= lifetime;
        });
    }

    Cached cached(int device, int register) {
        return cache.get(device * 10000 + register);
    }

    void putCached(int device, int register, Cached c) {
        if (register <= 31) {
            cache.put(device * 10000 + register, c);
        }
    }

    /** The numbers of the group's requests; the one number of a read that the cache answers. */
    TreeSet<Integer> group() {
        TreeSet<Integer> group = new TreeSet<>();
        int first = firstWaiting();
        if (first < 0) {
            return group;
        }
        group.add(first);
        Asked q = asked.get(first);
        if (fromCache(q) || joining == 0) {
            return group;
        }
        TreeSet<Integer> range = q.range();
        for (int i = 0; i < asked.size(); i++) {
            Asked a = asked.get(i);
            if (i == first || a.state != 0 || a.device != q.device || a.isWrite != q.isWrite) {
                continue;
            }
            TreeSet<Integer> own = a.range();
            boolean near = own.stream().anyMatch(r -> range.contains(r) || range.contains(r - 1) || range.contains(r + 1));
            TreeSet<Integer> both = new TreeSet<>(range);
            both.addAll(own);
            if (!near || both.size() > (q.isWrite ? 8 : 16)) {
                continue;
            }
            boolean barred = false;
            for (int j = 0; j < i; j++) {
                Asked b = asked.get(j);
                boolean overlap = b.range().stream().anyMatch(own::contains);
                if (b.state == 0 && b.device == q.device && !group.contains(j) && overlap) {
                    barred |= b.isWrite;
                    barred |= a.isWrite && !b.isWrite;
                }
            }
            if (!barred) {
                group.add(i);
                range.addAll(own);
            }
        }
        return group;
    }

    long groupBits() {
        return group().stream().mapToLong(i -> 1L << i).sum();
    }

    TreeSet<Integer> rangeOf(TreeSet<Integer> group) {
        TreeSet<Integer> range = new TreeSet<>();
        group.forEach(i -> range.addAll(asked.get(i).range()));
        return range;
    }

    int lastWritten(TreeSet<Integer> group, int register) {
        int value = 0;
        for (int i : group) {
            if (asked.get(i).start == register) {
                value = asked.get(i).toWrite;
            }
        }
        return value;
    }

    List<Integer> nextFrame() {
        TreeSet<Integer> group = group();
        if (group.isEmpty() || fromCache(asked.get(group.first()))) {
            return List.of();
        }
        Asked q = asked.get(group.first());
        TreeSet<Integer> range = rangeOf(group);
        int start = range.first();
        int count = range.size();
        if (!q.isWrite) {
            return frame(q.device, 3, data(start, count));
        }
        if (count == 1) {
            return frame(q.device, 6, data(start, lastWritten(group, start)));
        }
        int[] parts = new int[3 + count];
        parts[0] = start;
        parts[1] = count;
        parts[2] = oneByte(2 * count);
        for (int k = 0; k < count; k++) {
            parts[3 + k] = lastWritten(group, start + k);
        }
        return frame(q.device, 16, data(parts));
    }

    int frameByte(int k) {
        List<Integer> bytes = nextFrame();
        return k < bytes.size() ? bytes.get(k) : -1;
    }

    List<Integer> deviceDoes(Device d, List<Integer> f, boolean busy) {
        int number = f.get(0);
        int function = f.get(1);
        if (busy) {
            return frame(number, function + 128, new int[] {6});
        }
        int start = word(f, 2);
        int count = function == 6 ? 1 : word(f, 4);
        boolean exists = true;
        boolean writable = true;
        boolean small = true;
        for (int k = 0; k < count; k++) {
            exists &= start + k < 32;
            writable &= !d.readOnly.contains(start + k);
            if (function != 3) {
                small &= word(f, function == 6 ? 4 : 7 + 2 * k) <= d.greatest;
            }
        }
        if (!exists || function != 3 && !writable) {
            return frame(number, function + 128, new int[] {2});
        }
        if (!small) {
            return frame(number, function + 128, new int[] {3});
        }
        if (function == 3) {
            int[] parts = new int[1 + count];
            parts[0] = oneByte(2 * count);
            for (int k = 0; k < count; k++) {
                parts[1 + k] = d.registers[start + k];
            }
            return frame(number, 3, data(parts));
        }
        for (int k = 0; k < count; k++) {
            d.registers[start + k] = word(f, function == 6 ? 4 : 7 + 2 * k);
        }
        return frame(number, function, data(start, word(f, 4)));
    }

    static boolean fits(List<Integer> reply, List<Integer> f) {
        int n = reply.size();
        int right = sum(reply.subList(0, n - 2));
        if (reply.get(n - 2) != right % 256 || reply.get(n - 1) != right / 256) {
            return false;
        }
        if (!reply.get(0).equals(f.get(0))) {
            return false;
        }
        if (reply.get(1) == f.get(1) + 128) {
            return true;
        }
        if (!reply.get(1).equals(f.get(1))) {
            return false;
        }
        return f.get(1) == 3 ? reply.get(2) == 2 * word(f, 4) : reply.subList(2, 6).equals(f.subList(2, 6));
    }

    /** One attempt: the reply that was taken, or null. */
    OnLine attempt(Device d, List<Integer> f) {
        int t = time + 4 + f.size();
        counts[0]++;
        sentBefore = true;
        Fault fault = d.faults.isEmpty() ? new Fault(0, 0) : d.faults.remove(0);
        List<Integer> bytes = deviceDoes(d, f, fault.kind == 4);
        if (fault.kind == 2) {
            int i = fault.number % bytes.size();
            bytes.set(i, bytes.get(i) ^ 1);
        }
        if (fault.kind != 1) {
            int late = fault.kind == 3 ? fault.number : 0;
            line.add(new OnLine(replies++, t + d.delay + late, bytes, frameNumber));
        }
        List<OnLine> rest = new ArrayList<>();
        List<OnLine> inTime = new ArrayList<>();
        for (OnLine r : line) {
            if (r.begin > t + timeout) {
                rest.add(r);
            } else if (r.begin >= t) {
                inTime.add(r);
            }
        }
        inTime.sort((a, b) -> a.begin != b.begin ? Integer.compare(a.begin, b.begin) : Integer.compare(a.sentAs, b.sentAs));
        OnLine taken = null;
        for (OnLine r : inTime) {
            if (taken != null) {
                rest.add(r);
            } else if (fits(r.bytes, f)) {
                taken = r;
            }
        }
        line = rest;
        takenInLatest = taken != null;
        time = taken == null ? t + timeout : taken.begin + taken.bytes.size();
        counts[taken == null ? 3 : 1]++;
        if (taken != null && taken.frameNumber != frameNumber) {
            counts[2]++;
        }
        return taken;
    }

    int step() {
        TreeSet<Integer> group = group();
        if (group.isEmpty()) {
            return 0;
        }
        Asked q = asked.get(group.first());
        if (fromCache(q)) {
            q.range().forEach(r -> q.values.add(cached(q.device, r).value));
            q.fromCache = true;
            q.state = 1;
            q.time = time;
            counts[4]++;
            return 1;
        }
        counts[5] += group.size() - 1;
        List<Integer> f = nextFrame();
        if (sentBefore && !takenInLatest) {
            time += drain;
        }
        frameNumber++;
        OnLine taken = null;
        for (int n = 0; n < 1 + retries && taken == null; n++) {
            taken = attempt(devices.get(q.device), f);
        }
        boolean good = taken != null && taken.bytes.get(1) < 128;
        int code = good ? 0 : taken == null ? 11 : taken.bytes.get(2);
        TreeSet<Integer> range = rangeOf(group);
        Map<Integer, Integer> got = new TreeMap<>();
        for (int r : range) {
            if (good) {
                int value = q.isWrite ? lastWritten(group, r) : word(taken.bytes, 3 + 2 * (r - range.first()));
                got.put(r, value);
                putCached(q.device, r, new Cached(value, time));
            } else if (q.isWrite) {
                cache.remove(q.device * 10000 + r);
            }
        }
        for (int i : group) {
            Asked a = asked.get(i);
            a.state = good ? 1 : 2;
            a.code = code;
            a.time = time;
            if (good && !a.isWrite) {
                a.range().forEach(r -> a.values.add(got.get(r)));
            }
        }
        return group.size();
    }

    int finish() {
        while (firstWaiting() >= 0) {
            step();
        }
        return time;
    }

    int leastDrain(int most) {
        for (int d = 0; d <= most; d++) {
            PlainModel trial = copy();
            trial.drain = d;
            trial.finish();
            if (trial.counts[2] == counts[2]) {
                return d;
            }
        }
        return -1;
    }

    int clearCache() {
        int n = cache.size();
        cache.clear();
        return n;
    }

    int feed(int b, int gap) {
        if (gap >= 4) {
            endFrame();
        }
        if (!hearing.isEmpty() && (gap == 2 || gap == 3)) {
            broken = true;
        }
        hearing.add(b);
        return hearing.size();
    }

    int endFrame() {
        int n = hearing.size();
        if (n > 0) {
            int right = n < 2 ? 0 : sum(hearing.subList(0, n - 2));
            boolean good = n >= 2 && hearing.get(n - 2) + 256 * hearing.get(n - 1) == right;
            heard.add(0, new Heard(n < 4 ? 1 : n > 30 ? 2 : broken ? 3 : good ? 0 : 4, n));
            hearing.clear();
            broken = false;
        }
        return heard.size();
    }

    Heard heardAt(int i) {
        return i < 10 && i < heard.size() ? heard.get(i) : new Heard(-1, -1);
    }

    long fingerprint() {
        List<Integer> numbers = new ArrayList<>();
        numbers.add(time);
        for (int c : counts) {
            numbers.add(c);
        }
        for (int s = 0; s < 3; s++) {
            numbers.add(countOf(-1, s));
        }
        for (Asked a : asked) {
            numbers.add(a.state);
            numbers.add(a.code);
            numbers.add(a.time);
            if (!a.isWrite && a.state == 1) {
                numbers.addAll(a.values);
            }
        }
        for (int d = 1; d <= 3; d++) {
            for (int r = 0; r < 32; r++) {
                numbers.add(devices.get(d).registers[r]);
                numbers.add(cached(d, r) == null ? -1 : cached(d, r).value);
            }
        }
        long print = 73;
        for (int n : numbers) {
            print = print * 31 + n;
        }
        return print;
    }
}
