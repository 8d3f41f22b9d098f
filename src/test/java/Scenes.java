/** Gateways with a past, for tests of what a refused call leaves as it was and of what is full. */
final class Scenes {
    static final Class<IndexOutOfBoundsException> OUT_OF_BOUNDS = IndexOutOfBoundsException.class;
    static final Class<IllegalArgumentException> ILLEGAL_ARGUMENT = IllegalArgumentException.class;
    static final Class<IllegalStateException> ILLEGAL_STATE = IllegalStateException.class;

    private Scenes() {
    }

    /**
     * Something of all there is. Requests 0 a done read, 1 a failed write, 2 a read done from the
     * cache, 3 a failed read whose reply is still on the line, 4 and 5 waiting writes, 6 a waiting
     * read; faults at devices 1 and 2; cached values; three frames that were heard and a broken one
     * that has not ended.
     */
    static RegisterGateway worn() {
        RegisterGateway x = new RegisterGateway();
        x.poke(1, 0, 11);
        x.poke(3, 31, 65535);
        x.protect(2, 7, true);
        x.setDevice(2, 1, 100);
        x.read(0, 1, 0, 2);
        x.write(1, 2, 7, 5);
        x.finish();
        x.read(2, 1, 1, 1);
        x.step();
        x.set(2, 0);
        x.fault(1, 3, 60);
        x.read(3, 1, 8, 1);
        x.step();
        x.fault(1, 2, 3);
        x.fault(2, 1, 0);
        x.write(0, 1, 9, 9);
        x.write(1, 1, 10, 10);
        x.read(2, 3, 0, 16);
        x.set(2, 2);
        x.set(3, 7);
        for (int i = 0; i < 12; i++) {
            x.feed(i, i % 4 == 0 ? 4 : i % 4 - 1);
        }
        return x;
    }

    /** 40 requests that wait, 6 faults at each device, 11 frames of 1 to 11 bytes that were heard. */
    static RegisterGateway full() {
        RegisterGateway x = new RegisterGateway();
        for (int i = 0; i < 40; i++) {
            x.read(i % 4, 1 + i % 3, i % 16, 16);
        }
        for (int i = 0; i < 18; i++) {
            x.fault(1 + i % 3, 3, 2000);
        }
        for (int frame = 1; frame <= 11; frame++) {
            for (int i = 0; i < frame; i++) {
                x.feed(i, 0);
            }
            x.endFrame();
        }
        return x;
    }

    /**
     * Two reads of one register each, without retries. The first frame is got at 12, waited for until
     * 42, and its reply begins at 17 + number (number 26 or more); the second frame is got at 54 plus
     * the drain, and its reply begins 5 later. Register 0 holds 11, register 5 holds 55.
     */
    static RegisterGateway late(int number) {
        RegisterGateway x = new RegisterGateway();
        x.set(2, 0);
        x.poke(1, 0, 11);
        x.poke(1, 5, 55);
        x.fault(1, 3, number);
        x.read(0, 1, 0, 1);
        x.read(0, 1, 5, 1);
        return x;
    }
}
