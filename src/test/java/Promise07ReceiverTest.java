public final class Promise07ReceiverTest {
    private static final Due DUE = new Due("Promise 7: receiver");

    public static void main(String[] args) {
        DUE.test("The RECEIVER reads all that is in DOWN", Promise07ReceiverTest::readsAll);
        DUE.test("and sends", Promise07ReceiverTest::sends);
        DUE.test("how many bytes", Promise07ReceiverTest::howMany);
        DUE.end();
    }

    private static void readsAll() {
        FrameFerry x = Rig.started(false, 8);
        Rig.put(x, true, Frames.join(Frames.times(70, 7), Frames.hex(Frames.RQINIT, 0), Frames.times(30, 42)));
        x.receiver();
        DUE.is("DOWN", x.count(6), 0);
        DUE.is("good HEADERS", x.count(8), 1);
        FrameFerry full = Rig.waiting(false);
        Rig.fill(full, true);
        full.receiver();
        DUE.is("a full DOWN", full.count(6), 0);
        DUE.is("good HEADERS", full.count(8), 150);
        DUE.is("an empty DOWN", full.receiver(), 0);
        FrameFerry y = Rig.waiting(false);
        Rig.toReceiver(DUE, y, Frames.join(Frames.name(3, 9, false), Frames.data(0, Frames.E, 1, 2),
            Frames.bytes(Frames.EOF, 2, false), Frames.name(4, 9, false)));
        DUE.is("one behind the other", y.count(4), 4);
        DUE.same("what came between", Look.got(y, 3), 1, 2);
    }

    private static void sends() {
        FrameFerry x = Rig.started(false, 8);
        x.late(false);
        Rig.put(x, true, Frames.join(Frames.name(3, 9, false), Frames.hex(Frames.RQINIT, 0)));
        x.receiver();
        DUE.same("behind what is in UP", Look.pipe(x, false), Frames.join(
            Frames.hex(Frames.RINIT, 0), Frames.hex(Frames.RPOS, 0), Frames.hex(Frames.RINIT, 0)));
    }

    private static void howMany() {
        FrameFerry x = Rig.started(false, 8);
        Rig.put(x, true, 1, 2, 3);
        DUE.is("none", x.receiver(), 0);
        Rig.put(x, true, Frames.hex(Frames.RQINIT, 0));
        DUE.is("one", x.receiver(), 20);
        Rig.put(x, true, Frames.join(Frames.hex(Frames.RQINIT, 0), Frames.hex(Frames.ACK, 0), Frames.hex(Frames.RQINIT, 0)));
        DUE.is("two", x.receiver(), 40);
        DUE.is("UP", x.count(7), 60);
    }
}
