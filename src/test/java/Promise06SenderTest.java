public final class Promise06SenderTest {
    private static final Due DUE = new Due("Promise 6: sender");

    public static void main(String[] args) {
        DUE.test("The SENDER reads all that is in UP", Promise06SenderTest::readsAll);
        DUE.test("and sends", Promise06SenderTest::sends);
        DUE.test("how many bytes it sent", Promise06SenderTest::howMany);
        DUE.test("those lost for want of room, too", Promise06SenderTest::lostOnes);
        DUE.test("so with receiver and late", Promise06SenderTest::lostOnesOfOthers);
        DUE.end();
    }

    private static void readsAll() {
        for (int state = 0; state <= 5; state++) {
            FrameFerry x = Rig.inState(state);
            Rig.put(x, false, Frames.join(Frames.hex(Frames.ACK, 0), Frames.times(77, 42)));
            x.sender();
            DUE.is("UP behind STATE " + state, x.count(7), 0);
        }
        FrameFerry x = Rig.inState(0);
        Rig.fill(x, false);
        DUE.is("UP is full", x.count(7), 3000);
        x.sender();
        DUE.is("a full UP", x.count(7), 0);
        FrameFerry y = Rig.inState(1);
        int[] row = Frames.join(Frames.hex(Frames.RPOS, 100), Frames.hex(Frames.SKIP, 0), Frames.hex(Frames.FIN, 0));
        DUE.same("one behind the other", Rig.toSender(DUE, y, row), Frames.join(Frames.hex(Frames.FIN, 0), new int[] {79, 79}));
        DUE.is("STATE", y.count(0), 5);
    }

    private static void sends() {
        FrameFerry x = Rig.withFile(3, 9);
        x.start(false, 8);
        x.late(false);
        x.sender();
        DUE.same("behind what is in DOWN", Look.pipe(x, true),
            Frames.join(Frames.hex(Frames.RQINIT, 0), Frames.name(3, 1, false)));
    }

    private static void howMany() {
        FrameFerry x = Rig.withFile(3, 24, 24);
        x.start(false, 8);
        DUE.is("nothing to answer", x.sender(), 0);
        x.lose(true, 0, 3000);
        x.late(false);
        DUE.is("FILE", x.sender(), Frames.name(3, 2, false).length);
        DUE.is("all of it is in DOWN", x.count(6), Frames.name(3, 2, false).length);
        int[] row = Frames.join(Frames.data(0, Frames.E, 24, 24), Frames.bytes(Frames.EOF, 2, false));
        DUE.same("DATA", Rig.toSender(DUE, x, Frames.hex(Frames.RPOS, 0)), row);
        DUE.same("two of them", Rig.toSender(DUE, x, Frames.join(Frames.hex(Frames.NAK, 0), Frames.hex(Frames.NAK, 0))),
            Frames.join(Frames.bytes(Frames.EOF, 2, false), Frames.bytes(Frames.EOF, 2, false)));
    }

    private static void lostOnes() {
        FrameFerry x = Rig.withFile(3, 9);
        x.start(false, 8);
        Rig.fill(x, true);
        x.late(false);
        DUE.is("all are lost", x.sender(), Frames.name(3, 1, false).length);
        DUE.is("DOWN", x.count(6), 3000);
        DUE.is("STATE", x.count(0), 1);
        x.lose(true, 0, 2);
        x.lose(false, 0, 3000);
        Rig.put(x, false, Frames.hex(Frames.NAK, 0));
        DUE.is("all but two are lost", x.sender(), Frames.name(3, 1, false).length);
        DUE.is("DOWN", x.count(6), 3000);
        DUE.is("the first", x.pipe(true, 2998), 42);
        DUE.is("the second", x.pipe(true, 2999), 24);
    }

    private static void lostOnesOfOthers() {
        FrameFerry x = Rig.started(false, 8);
        Rig.fill(x, true);
        Rig.fill(x, false);
        DUE.is("late of the sender", x.late(true), 20);
        DUE.is("late of the receiver", x.late(false), 20);
        DUE.is("receiver", x.receiver(), 150 * 20);
        DUE.is("UP", x.count(7), 3000);
        DUE.is("good HEADERS", x.count(8), 150);
    }
}
