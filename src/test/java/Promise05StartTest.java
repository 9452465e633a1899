import java.util.Arrays;

public final class Promise05StartTest {
    private static final Due DUE = new Due("Promise 5: start");

    public static void main(String[] args) {
        DUE.test("All begins: PIPES are empty", Promise05StartTest::pipesAreEmpty);
        DUE.test("the SENDER sends RQINIT in HEX (P 0)", Promise05StartTest::rqinit);
        DUE.test("STATE 0", Promise05StartTest::stateZero);
        DUE.test("it may not CHECK 32 so far", Promise05StartTest::noCheck32SoFar);
        DUE.test("the RECEIVER has no FILE open", Promise05StartTest::noneOpen);
        DUE.test("but keeps those it has", Promise05StartTest::keepsWhatItHas);
        DUE.test("is outside", Promise05StartTest::outside);
        DUE.test("not DONE", Promise05StartTest::notDone);
        DUE.test("and can CHECK 32 or not", Promise05StartTest::canCheck32);
        DUE.test("It may come at any time", Promise05StartTest::atAnyTime);
        DUE.test("files to be sent stay", Promise05StartTest::filesStay);
        DUE.test("SIZE is that from now on", Promise05StartTest::size);
        DUE.test("IllegalArgument: size not 1 .. 64", Promise05StartTest::wrongSizes);
        DUE.end();
    }

    private static void pipesAreEmpty() {
        FrameFerry x = Rig.started(false, 8);
        Rig.fill(x, true);
        Rig.fill(x, false);
        DUE.is("DOWN is full", x.count(6), 3000);
        DUE.is("UP is full", x.count(7), 3000);
        x.start(false, 8);
        DUE.is("DOWN has RQINIT alone", x.count(6), 20);
        DUE.is("UP", x.count(7), 0);
        DUE.is("behind RQINIT", x.pipe(true, 20), FrameFerry.NONE);
        DUE.is("the first of UP", x.pipe(false, 0), FrameFerry.NONE);
    }

    private static void rqinit() {
        DUE.same("DOWN", Look.pipe(Rig.started(false, 8), true), Frames.hex(Frames.RQINIT, 0));
        DUE.same("DOWN with CHECK 32", Look.pipe(Rig.started(true, 8), true), Frames.hex(Frames.RQINIT, 0));
        FrameFerry x = Rig.inState(2);
        x.start(true, 8);
        DUE.same("DOWN behind more", Look.pipe(x, true), Frames.hex(Frames.RQINIT, 0));
    }

    private static void stateZero() {
        for (int state = 0; state <= 5; state++) {
            FrameFerry x = Rig.inState(state);
            x.start(false, 8);
            DUE.is("STATE", x.count(0), 0);
            DUE.is("number", x.count(1), 0);
            DUE.is("place", x.count(2), 0);
            DUE.same("NAK", Rig.toSender(DUE, x, Frames.hex(Frames.NAK, 0)), Frames.hex(Frames.RQINIT, 0));
        }
    }

    private static void noCheck32SoFar() {
        FrameFerry x = Rig.withFile(3, 9, 8, 7);
        x.start(true, 8);
        x.receiver();
        DUE.same("with 32", Rig.toSender(DUE, x, Frames.hex(Frames.RINIT, 32)), Frames.name(3, 3, true));
        x.start(true, 8);
        DUE.same("not yet", Rig.toSender(DUE, x, Frames.hex(Frames.RINIT, 0)), Frames.name(3, 3, false));
    }

    private static void noneOpen() {
        FrameFerry x = Rig.holding(DUE, 3, 100, 5, 6);
        x.start(false, 8);
        DUE.is("open", x.count(4), FrameFerry.NONE);
        DUE.is("POSITION", x.count(5), FrameFerry.NONE);
        DUE.same("DATA", Rig.toReceiver(DUE, x, Frames.data(2, Frames.W, 7)));
        DUE.same("EOF", Rig.toReceiver(DUE, x, Frames.bytes(Frames.EOF, 2, false)));
        DUE.is("it got no more", x.got(3, 2), FrameFerry.NONE);
    }

    private static void keepsWhatItHas() {
        FrameFerry x = Rig.holding(DUE, 3, 100, 5, 6);
        Rig.toReceiver(DUE, x, Frames.bytes(Frames.EOF, 2, false));
        Rig.toReceiver(DUE, x, Frames.join(Frames.name(4, 9, false), Frames.data(0, Frames.E, 7, 8, 9)));
        x.start(false, 8);
        DUE.same("a closed one", Look.got(x, 3), 5, 6);
        DUE.same("an open one", Look.got(x, 4), 7, 8, 9);
        DUE.same("it goes on", Rig.toReceiver(DUE, x, Frames.name(4, 9, false)), Frames.hex(Frames.RPOS, 3));
    }

    /** Before the start the receiver has read a part of each of these, up to any byte of it. */
    private static void outside() {
        int[][] rows = {Frames.hex(Frames.NAK, 0), Frames.bytes(Frames.NAK, 24, false), Frames.bytes(Frames.NAK, 24, true),
            Frames.name(5, 24, false), Frames.name(5, 24, true)};
        for (int[] row : rows) {
            for (int many = 1; many < row.length; many++) {
                FrameFerry x = Rig.waiting(false);
                Rig.toReceiver(DUE, x, Arrays.copyOf(row, many));
                x.start(false, 8);
                DUE.is("RINIT", x.receiver(), 20);
                DUE.is("good HEADERS", x.count(8), 1);
                DUE.is("BAD HEADERS", x.count(9), 0);
            }
        }
        FrameFerry y = Rig.withFile(3);
        y.start(false, 8);
        Rig.toSender(DUE, y, 42, 24, 65);
        y.start(false, 8);
        y.late(false);
        y.lose(true, 0, 3000);
        y.sender();
        DUE.same("the sender begins, too", Look.pipe(y, true), Frames.name(3, 0, false));
    }

    private static void notDone() {
        FrameFerry x = new FrameFerry();
        x.start(false, 8);
        DUE.is("a new object", x.count(3), 0);
        Rig.toReceiver(DUE, x, Frames.hex(Frames.FIN, 0));
        DUE.is("DONE", x.count(3), 1);
        x.start(false, 8);
        DUE.is("not DONE", x.count(3), 0);
        DUE.is("it reads", x.receiver(), 20);
    }

    private static void canCheck32() {
        FrameFerry x = Rig.started(true, 8);
        x.receiver();
        DUE.same("it can", Look.pipe(x, false), Frames.hex(Frames.RINIT, 32));
        x.start(false, 8);
        x.receiver();
        DUE.same("it can't any more", Look.pipe(x, false), Frames.hex(Frames.RINIT, 0));
        x.start(true, 8);
        x.receiver();
        DUE.same("it can again", Look.pipe(x, false), Frames.hex(Frames.RINIT, 32));
    }

    private static void atAnyTime() {
        int[] begun = {0, 0, 0, 0, -1, -1, 20, 0, 0, 0, 0, 0};
        for (int calls = 0; calls <= 20; calls++) {
            FrameFerry x = Rig.withFile(3, Frames.rising(0, 100));
            x.open(7);
            x.start(true, 8);
            for (int i = 0; i < calls; i++) {
                if (i % 2 == 0) {
                    x.receiver();
                } else {
                    x.sender();
                }
            }
            x.start(true, 8);
            DUE.same("behind " + calls + " calls", Look.counts(x), begun);
        }
        FrameFerry y = new FrameFerry();
        y.start(false, 8);
        y.start(false, 8);
        DUE.same("twice", Look.counts(y), begun);
        y.crash();
        y.start(false, 8);
        DUE.same("behind a crash", Look.counts(y), begun);
    }

    private static void filesStay() {
        FrameFerry x = Rig.withFile(3, 9, 8, 7);
        x.open(4);
        x.start(false, 8);
        Rig.rounds(x, 9);
        DUE.is("STATE", x.count(0), 5);
        x.start(false, 8);
        DUE.same("the first one", Rig.toSender(DUE, x, Frames.hex(Frames.RINIT, 0)), Frames.name(3, 3, false));
        x.start(false, 8);
        DUE.same("the first one again", Rig.toSender(DUE, x, Frames.hex(Frames.RINIT, 0)), Frames.name(3, 3, false));
        DUE.same("the second one", Rig.toSender(DUE, x, Frames.hex(Frames.SKIP, 0)), Frames.name(4, 0, false));
        DUE.same("its end", Rig.toSender(DUE, x, Frames.hex(Frames.SKIP, 0)), Frames.hex(Frames.FIN, 0));
    }

    private static void size() {
        for (int size = 1; size <= 64; size++) {
            FrameFerry x = Rig.inState(2);
            x.start(false, size);
            Rig.toSender(DUE, x, Frames.hex(Frames.RINIT, 0));
            int[] sent = Rig.toSender(DUE, x, Frames.hex(Frames.RPOS, 0));
            int[] first = Frames.data(0, Frames.G, Frames.rising(0, size));
            DUE.same("SIZE " + size, Arrays.copyOf(sent, first.length), first);
        }
    }

    private static void wrongSizes() {
        int[] wrong = {0, 65, -1, 128, Integer.MIN_VALUE, Integer.MAX_VALUE};
        for (int size : wrong) {
            FrameFerry x = new FrameFerry();
            FrameFerry y = Rig.inState(2);
            DUE.argument("start(" + size + ") of a new object", x, () -> x.start(true, size));
            DUE.argument("start(" + size + ") in STATE 2", y, () -> y.start(true, size));
        }
        DUE.is("SIZE 1", Rig.started(false, 1).count(0), 0);
        DUE.is("SIZE 64", Rig.started(false, 64).count(0), 0);
    }
}
