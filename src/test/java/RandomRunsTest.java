import java.util.Random;

/**
 * Random runs of calls on the class and on PlainModel at once, each answer compared; the seeds are
 * fixed, so that every run of this test makes the same calls.
 */
public final class RandomRunsTest {
    private static final int RUNS = 1200;
    private static final int CALLS = 300;

    private final Check check = new Check();
    private final Random random;
    private final RegisterGateway x = new RegisterGateway();
    private final PlainModel m = new PlainModel();
    private final int run;
    /** Few devices and registers make requests meet; few values make false replies fit. */
    private final int devices;
    private final int registers;
    private final int values;
    static int falseReplies = 0;
    static int drainsFound = 0;
    static int drainsMissed = 0;
    static int greatest = 0;

    RandomRunsTest(int run) {
        this.run = run;
        random = new Random(run);
        devices = 1 + random.nextInt(3);
        registers = new int[] {3, 6, 12, 20, 40, 1001}[random.nextInt(6)];
        values = new int[] {2, 5, 65536}[random.nextInt(3)];
    }

    private int pick(int bound) {
        return random.nextInt(bound);
    }

    private int pickDevice() {
        return 1 + pick(devices);
    }

    private int oneOf(int... choices) {
        return choices[pick(choices.length)];
    }

    private void due(String call, long got, long want) {
        check.due("run " + run + ": " + call, got, want);
    }

    private void configure() {
        int setting = pick(5);
        int value = switch (setting) {
            case 0 -> oneOf(0, 20, 50, 200, 10000);
            case 1 -> oneOf(1, 3, 5, 10, 20, 30, 1000);
            case 2 -> pick(4);
            case 3 -> oneOf(0, 5, 10, 20, 30, 1000);
            default -> oneOf(0, 1, 1);
        };
        due("set " + setting + " " + value, x.set(setting, value), m.set(setting, value));
        int d = pickDevice();
        PlainModel.Device device = m.devices.get(d);
        if (pick(2) == 0) {
            int delay = oneOf(0, 1, 5, 10, 15, 20, 30, 40, 200, 1000);
            due("delay", x.setDevice(d, 0, delay), device.delay);
            device.delay = delay;
        } else {
            int most = oneOf(0, 1, 100, 65535, 65535, 65535);
            due("greatest", x.setDevice(d, 1, most), device.greatest);
            device.greatest = most;
        }
    }

    private void changeDevice() {
        int d = pickDevice();
        int r = pick(32);
        PlainModel.Device device = m.devices.get(d);
        if (pick(3) == 0) {
            boolean on = pick(3) == 0;
            boolean was = on ? !device.readOnly.add(r) : device.readOnly.remove(r);
            due("protect", x.protect(d, r, on) ? 1 : 0, was ? 1 : 0);
        } else {
            int v = pick(values);
            due("poke", x.poke(d, r, v), device.registers[r]);
            device.registers[r] = v;
            due("peek", x.peek(d, r), v);
        }
    }

    private void addFault() {
        int d = pickDevice();
        PlainModel.Device device = m.devices.get(d);
        int kind = oneOf(1, 2, 3, 3, 3, 4);
        int number = oneOf(0, 3, 8, 12, 15, 20, 25, 30, 40, 60, pick(2001));
        if (device.faults.size() < 6) {
            device.faults.add(new PlainModel.Fault(kind, number));
            due("fault", x.fault(d, kind, number), device.faults.size());
        } else {
            check.dueThrow("run " + run + ": seventh fault", x, IllegalStateException.class, () -> x.fault(d, kind, number));
        }
    }

    private void ask() {
        int client = pick(4);
        int d = pickDevice();
        int start = pick(registers);
        int number = pick(2) == 0 ? 1 + pick(2) : 1 + pick(16);
        int v = pick(values);
        boolean isWrite = pick(2) == 0;
        if (m.asked.size() >= 40) {
            check.dueThrow("run " + run + ": request 40", x, IllegalStateException.class,
                    () -> { if (isWrite) { x.write(client, d, start, v); } else { x.read(client, d, start, number); } });
        } else if (isWrite) {
            due("write", x.write(client, d, start, v), m.ask(client, d, start, 1, true, v));
        } else {
            due("read", x.read(client, d, start, number), m.ask(client, d, start, number, false, 0));
        }
    }

    private void hear() {
        int way = pick(12);
        if (way == 0) {
            due("endFrame", x.endFrame(), m.endFrame());
        } else if (way == 1) {
            int sum = x.checksum();
            due("feed low", x.feed(sum & 255, 0), m.feed(sum & 255, 0));
            due("feed high", x.feed(sum >> 8, 1), m.feed(sum >> 8, 1));
        } else {
            int b = pick(256);
            int gap = oneOf(0, 0, 0, 0, 0, 0, 0, 0, 0, 0, 1, 1, 1, 1, 1, 2, 3, 4, 5, 1000);
            if (pick(3) != 0) {
                gap = pick(2);
            }
            due("feed", x.feed(b, gap), m.feed(b, gap));
        }
        due("checksum", x.checksum(), PlainModel.sum(m.hearing));
        int i = pick(13);
        due("verdict", x.verdict(i), m.heardAt(i).verdict());
        due("length", x.length(i), m.heardAt(i).length());
    }

    private void act() {
        switch (pick(12)) {
            case 0, 1, 2, 3, 4, 5 -> {
                due("group", x.group(), m.groupBits());
                due("step", x.step(), m.step());
            }
            case 6 -> due("finish", x.finish(), m.finish());
            case 7 -> {
                int ticks = oneOf(0, 1, 10, 40, 51, 300);
                m.time += ticks;
                due("pass", x.pass(ticks), m.time);
            }
            case 8 -> {
                if (pick(3) == 0) {
                    due("clearCache", x.clearCache(), m.clearCache());
                }
            }
            default -> {
                int most = oneOf(0, 10, 20, 40, pick(41));
                int want = m.leastDrain(most);
                due("leastDrain " + most, x.leastDrain(most), want);
                drainsFound += want > 0 ? 1 : 0;
                drainsMissed += want < 0 ? 1 : 0;
                greatest = Math.max(greatest, want);
            }
        }
        due("time", x.time(), m.time);
    }

    private void look() {
        due("group", x.group(), m.groupBits());
        for (int k = 0; k < 40; k++) {
            due("frameByte " + k, x.frameByte(k), m.frameByte(k));
        }
        int client = pick(4);
        int state = pick(3);
        due("requests", x.requests(state), m.countOf(-1, state));
        due("requestsOf", x.requestsOf(client, state), m.countOf(client, state));
        int d = pickDevice();
        for (int r = 0; r < 32; r++) {
            PlainModel.Cached c = m.cached(d, r);
            due("cached", x.cached(d, r), c == null ? -1 : c.value());
            due("cacheAge", x.cacheAge(d, r), c == null ? -1 : m.time - c.time());
        }
        for (int what = 0; what < 6; what++) {
            due("count " + what, x.count(what), m.counts[what]);
        }
    }

    private void lookAtRequest() {
        if (m.asked.isEmpty()) {
            return;
        }
        int i = pick(m.asked.size());
        PlainModel.Asked a = m.asked.get(i);
        int[] facts = {a.client, a.device, a.start, a.count, a.isWrite ? 1 : 0, a.state, a.code, a.time, a.fromCache ? 1 : 0};
        for (int what = 0; what < facts.length; what++) {
            due("request " + i + " " + what, x.request(i, what), facts[what]);
        }
        for (int k = 0; k < a.count; k++) {
            int index = k;
            if (!a.isWrite && a.state == 1) {
                due("value " + i + " " + k, x.value(i, k), a.values.get(k));
            } else {
                check.dueThrow("run " + run + ": value " + i, x, IllegalStateException.class, () -> x.value(i, index));
            }
        }
    }

    int play() {
        for (int call = 0; call < CALLS && check.wrong() == 0; call++) {
            switch (pick(20)) {
                case 0, 1 -> configure();
                case 2, 3 -> changeDevice();
                case 4, 5 -> addFault();
                case 6, 7, 8 -> ask();
                case 9, 10, 11 -> hear();
                case 12, 13 -> act();
                case 14 -> {
                    if (pick(4) == 0) {
                        look();
                    }
                }
                case 15, 16 -> lookAtRequest();
                default -> due("fingerprint", x.fingerprint(), m.fingerprint());
            }
        }
        falseReplies += m.counts[2];
        return check.wrong();
    }

    public static void main(String[] args) {
        int wrong = 0;
        for (int run = 0; run < RUNS && wrong == 0; run++) {
            wrong += new RandomRunsTest(run).play();
        }
        System.out.println("false replies met: " + falseReplies + ", drains above 0: " + drainsFound
                + " (greatest " + greatest + "), no drain enough: " + drainsMissed);
        if (wrong != 0 || falseReplies < 100 || drainsFound < 20 || drainsMissed < 20) {
            System.out.println("random runs differ from the model, or no longer reach false replies");
            System.exit(1);
        }
    }
}
