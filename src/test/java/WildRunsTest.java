import java.util.Random;
import java.util.function.LongSupplier;

/**
 * Random runs of calls with any numbers as arguments, right and wrong ones mixed: which exception is due is
 * told by a row of conditions in the order of the document's "Throws" lines, and what is answered otherwise
 * by PlainModel. Half of the runs are far longer than the promised 512 calls, since no call may ever throw
 * by itself, in any state.
 */
public final class WildRunsTest {
    private static final int RUNS = 80;
    private static final int[] EDGES = {Integer.MIN_VALUE, Integer.MIN_VALUE + 1, -65536, -2, -1, 0, 1, 2, 3, 4, 5, 6,
            7, 8, 9, 10, 15, 16, 17, 30, 31, 32, 33, 39, 40, 41, 255, 256, 999, 1000, 1001, 2000, 2001, 9999, 10000,
            10001, 65535, 65536, Integer.MAX_VALUE - 1, Integer.MAX_VALUE};

    private final Check check = new Check();
    private final Random random;
    private final RegisterGateway x = new RegisterGateway();
    private final PlainModel m = new PlainModel();
    private final int run;
    static int refused = 0;
    static int answered = 0;

    WildRunsTest(int run) {
        this.run = run;
        random = new Random(run);
    }

    /** Mostly a number of the range, so that calls with several arguments are not always refused. */
    private int near(int least, int greatest) {
        int way = random.nextInt(12);
        if (way == 0) {
            return EDGES[random.nextInt(EDGES.length)];
        }
        if (way == 1) {
            return random.nextInt();
        }
        if (way == 2) {
            return random.nextBoolean() ? least - 1 : greatest + 1;
        }
        return least + random.nextInt(greatest - least + 1);
    }

    private static boolean out(int number, int least, int greatest) {
        return number < least || number > greatest;
    }

    /** The first condition that holds tells the exception; without one the call answers like the model. */
    private void call(String name, LongSupplier got, LongSupplier want, boolean index, boolean argument, boolean state) {
        String text = "run " + run + ": " + name;
        if (index) {
            check.outOfBounds(text, x, got::getAsLong);
        } else if (argument) {
            check.illegalArgument(text, x, got::getAsLong);
        } else if (state) {
            check.illegalState(text, x, got::getAsLong);
        } else {
            answered++;
            check.due(text, got.getAsLong(), want.getAsLong());
            return;
        }
        refused++;
    }

    private void set() {
        int s = near(0, 4);
        boolean index = out(s, 0, 4);
        int least = s == 1 ? 1 : 0;
        int greatest = index ? 0 : new int[] {10000, 1000, 3, 1000, 1}[s];
        int v = near(least, greatest);
        call("set", () -> x.set(s, v), () -> m.set(s, v), index, out(v, least, greatest), false);
    }

    private void setDevice() {
        int d = near(1, 3);
        int p = near(0, 1);
        int greatest = p == 0 ? 1000 : 65535;
        int v = near(0, greatest);
        call("setDevice", () -> x.setDevice(d, p, v), () -> {
            PlainModel.Device device = m.devices.get(d);
            int old = p == 0 ? device.delay : device.greatest;
            device.delay = p == 0 ? v : device.delay;
            device.greatest = p == 1 ? v : device.greatest;
            return old;
        }, out(d, 1, 3) || out(p, 0, 1), out(v, 0, greatest), false);
    }

    private void registers() {
        int d = near(1, 3);
        int r = near(0, 31);
        int v = near(0, 65535);
        boolean on = random.nextBoolean();
        boolean index = out(d, 1, 3) || out(r, 0, 31);
        call("peek", () -> x.peek(d, r), () -> m.devices.get(d).registers[r], index, false, false);
        call("poke", () -> x.poke(d, r, v), () -> {
            int old = m.devices.get(d).registers[r];
            m.devices.get(d).registers[r] = v;
            return old;
        }, index, out(v, 0, 65535), false);
        call("protect", () -> x.protect(d, r, on) ? 1 : 0, () -> {
            boolean was = on ? !m.devices.get(d).readOnly.add(r) : m.devices.get(d).readOnly.remove(r);
            return was ? 1 : 0;
        }, index, false, false);
        PlainModel.Cached c = index ? null : m.cached(d, r);
        call("cached", () -> x.cached(d, r), () -> c == null ? -1 : c.value(), index, false, false);
        call("cacheAge", () -> x.cacheAge(d, r), () -> c == null ? -1 : m.time - c.time(), index, false, false);
    }

    private void fault() {
        int d = near(1, 3);
        int kind = near(1, 4);
        int number = near(0, 2000);
        boolean index = out(d, 1, 3);
        call("fault", () -> x.fault(d, kind, number), () -> {
            m.devices.get(d).faults.add(new PlainModel.Fault(kind, number));
            return m.devices.get(d).faults.size();
        }, index, out(kind, 1, 4) || out(number, 0, 2000), !index && m.devices.get(d).faults.size() >= 6);
    }

    private void ask() {
        int c = near(0, 3);
        int d = near(1, 3);
        int start = near(0, random.nextInt(4) == 0 ? 1000 : 35);
        int number = near(1, 16);
        int v = near(0, 65535);
        boolean index = out(c, 0, 3) || out(d, 1, 3);
        call("read", () -> x.read(c, d, start, number), () -> m.ask(c, d, start, number, false, 0), index,
                out(start, 0, 1000) || out(number, 1, 16), m.asked.size() >= 40);
        call("write", () -> x.write(c, d, start, v), () -> m.ask(c, d, start, 1, true, v), index,
                out(start, 0, 1000) || out(v, 0, 65535), m.asked.size() >= 40);
    }

    private void lookAtRequest() {
        int last = m.asked.size() - 1;
        int i = near(0, Math.max(0, last));
        int what = near(0, 8);
        boolean index = out(i, 0, last);
        PlainModel.Asked a = index ? new PlainModel.Asked() : m.asked.get(i);
        int[] facts = {a.client, a.device, a.start, a.count, a.isWrite ? 1 : 0, a.state, a.code, a.time, a.fromCache ? 1 : 0};
        call("request", () -> x.request(i, what), () -> facts[what], index || out(what, 0, 8), false, false);
        int k = near(0, Math.max(1, a.count) - 1);
        call("value", () -> x.value(i, k), () -> a.values.get(k), index || out(k, 0, a.count - 1), false,
                a.isWrite || a.state != 1);
        int c = near(0, 3);
        int s = near(0, 2);
        call("requests", () -> x.requests(s), () -> m.countOf(-1, s), out(s, 0, 2), false, false);
        call("requestsOf", () -> x.requestsOf(c, s), () -> m.countOf(c, s), out(c, 0, 3) || out(s, 0, 2), false, false);
    }

    private void act() {
        if (random.nextInt(3) == 0) {
            call("step", x::step, m::step, false, false, false);
        }
        if (random.nextInt(10) == 0) {
            call("finish", x::finish, m::finish, false, false, false);
        }
        int ticks = near(0, 10000);
        call("pass", () -> x.pass(ticks), () -> m.time += ticks, false, out(ticks, 0, 10000), m.time + (long) ticks > 10000000);
        call("time", x::time, () -> m.time, false, false, false);
        if (random.nextInt(10) == 0) {
            call("clearCache", x::clearCache, m::clearCache, false, false, false);
        }
        if (random.nextInt(10) == 0) {
            int most = near(0, 40);
            call("leastDrain", () -> x.leastDrain(most), () -> m.leastDrain(most), false, out(most, 0, 40), false);
        }
        call("fingerprint", x::fingerprint, m::fingerprint, false, false, false);
    }

    private void look() {
        int k = near(0, 30);
        int what = near(0, 5);
        call("group", x::group, m::groupBits, false, false, false);
        call("frameByte", () -> x.frameByte(k), () -> m.frameByte(k), k < 0, false, false);
        call("count", () -> x.count(what), () -> m.counts[what], out(what, 0, 5), false, false);
    }

    private void hear() {
        int b = near(0, 255);
        int gap = random.nextInt(3) == 0 ? near(0, 1000) : near(0, 2);
        int i = near(0, 11);
        call("feed", () -> x.feed(b, gap), () -> m.feed(b, gap), false, out(b, 0, 255) || out(gap, 0, 1000), false);
        call("checksum", x::checksum, () -> PlainModel.sum(m.hearing), false, false, false);
        if (random.nextInt(12) == 0) {
            call("endFrame", x::endFrame, m::endFrame, false, false, false);
        }
        call("verdict", () -> x.verdict(i), () -> m.heardAt(i).verdict(), i < 0, false, false);
        call("length", () -> x.length(i), () -> m.heardAt(i).length(), i < 0, false, false);
    }

    int play() {
        int rounds = run % 2 == 0 ? 140 : 1400;
        for (int round = 0; round < rounds && check.wrong() == 0; round++) {
            switch (random.nextInt(9)) {
                case 0 -> set();
                case 1 -> setDevice();
                case 2 -> registers();
                case 3 -> fault();
                case 4 -> ask();
                case 5 -> lookAtRequest();
                case 6 -> act();
                case 7 -> look();
                default -> hear();
            }
        }
        return check.wrong();
    }

    public static void main(String[] args) {
        int wrong = 0;
        for (int run = 0; run < RUNS && wrong == 0; run++) {
            wrong += new WildRunsTest(run).play();
        }
        System.out.println("answered: " + answered + ", refused: " + refused);
        if (wrong != 0 || answered < 80000 || refused < 40000) {
            System.out.println("wild runs differ from the document, or no longer have right and wrong calls enough");
            System.exit(1);
        }
    }
}
