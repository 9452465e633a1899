import java.util.Arrays;

public final class Promise08LateTest {
    private static final Due DUE = new Due("Promise 8: late");
    private static final int[] RINIT = Frames.hex(Frames.RINIT, 0);

    public static void main(String[] args) {
        DUE.test("It takes too long for one of them", Promise08LateTest::forOneOfThem);
        DUE.test("the SENDER sends again as with NAK", Promise08LateTest::senderSendsAgain);
        DUE.test("in STATE 2: it goes on as from its place, DATA first", Promise08LateTest::senderInState2);
        DUE.test("the RECEIVER is outside", Promise08LateTest::receiverIsOutside);
        DUE.test("what it was within is given up, no BAD one", Promise08LateTest::receiverGivesUp);
        DUE.test("and sends RPOS if a FILE is open", Promise08LateTest::receiverWithOneOpen);
        DUE.test("else RINIT", Promise08LateTest::receiverWithout);
        DUE.test("nothing if it is DONE", Promise08LateTest::receiverIsDone);
        DUE.test("how many bytes", Promise08LateTest::howMany);
        DUE.end();
    }

    private static int[] lateOf(FrameFerry x, boolean sender) {
        x.lose(sender, 0, 3000);
        int many = x.late(sender);
        int[] sent = Look.pipe(x, sender);
        DUE.is("late in bytes", many, sent.length);
        return sent;
    }

    private static void forOneOfThem() {
        FrameFerry x = Rig.started(false, 8);
        x.late(false);
        x.late(true);
        DUE.same("what is in the pipes is not read", Look.counts(x), 0, 0, 0, 0, -1, -1, 40, 20, 0, 0, 0, 0);
        FrameFerry y = Rig.withFile(6, 1, 2, 3);
        y.start(false, 2);
        Rig.toSender(DUE, y, Arrays.copyOf(RINIT, 9));
        Rig.toReceiver(DUE, y, Arrays.copyOf(Frames.hex(Frames.RQINIT, 0), 9));
        y.late(true);
        DUE.same("the receiver goes on within", Rig.toReceiver(DUE, y, Arrays.copyOfRange(Frames.hex(Frames.RQINIT, 0), 9, 20)),
            RINIT);
        y.late(false);
        DUE.same("the sender goes on within", Rig.toSender(DUE, y, Arrays.copyOfRange(RINIT, 9, 20)), Frames.name(6, 3, false));
    }

    private static void senderSendsAgain() {
        FrameFerry x = Rig.withFile(6, 1, 2, 3);
        x.start(true, 8);
        DUE.same("in 0", lateOf(x, true), Frames.hex(Frames.RQINIT, 0));
        Rig.toSender(DUE, x, Frames.hex(Frames.RINIT, 32));
        DUE.same("in 1", lateOf(x, true), Frames.name(6, 3, true));
        DUE.same("in 1 again", lateOf(x, true), Frames.name(6, 3, true));
        Rig.toSender(DUE, x, Frames.hex(Frames.RPOS, 0));
        DUE.same("in 3", lateOf(x, true), Frames.bytes(Frames.EOF, 3, true));
        Rig.toSender(DUE, x, RINIT);
        DUE.same("in 4", lateOf(x, true), Frames.hex(Frames.FIN, 0));
        Rig.toSender(DUE, x, Frames.hex(Frames.FIN, 0));
        DUE.same("in 5", lateOf(x, true));
        for (int state = 0; state <= 5; state++) {
            FrameFerry y = Rig.inState(state);
            if (state != 2) {
                y.late(true);
                DUE.is("STATE stays", y.count(0), state);
            }
        }
    }

    private static void senderInState2() {
        FrameFerry x = Rig.withFile(6, Frames.rising(40, 20));
        x.start(false, 2);
        Rig.toSender(DUE, x, RINIT);
        Rig.toSender(DUE, x, Frames.hex(Frames.RPOS, 0));
        DUE.is("place", x.count(2), 8);
        int[] want = Frames.bytes(Frames.DATA, 8, false);
        for (int i = 48; i < 56; i += 2) {
            want = Frames.join(want, Frames.packet(Frames.G, false, i, i + 1));
        }
        DUE.same("DATA and four", lateOf(x, true), want);
        DUE.is("place", x.count(2), 16);
        DUE.is("STATE", x.count(0), 2);
        DUE.same("and once more, to the end", lateOf(x, true), Frames.join(Frames.bytes(Frames.DATA, 16, false),
            Frames.packet(Frames.G, false, 56, 57), Frames.packet(Frames.E, false, 58, 59), Frames.bytes(Frames.EOF, 20, false)));
        DUE.is("place", x.count(2), 20);
        DUE.is("STATE", x.count(0), 3);
        FrameFerry y = Rig.inState(2);
        y.late(true);
        y.lose(true, 0, 3000);
        y.sender();
        DUE.same("no DATA again behind it", Arrays.copyOf(Look.pipe(y, true), 8), Frames.rising(64, 8));
    }

    private static void receiverIsOutside() {
        int[][] rows = {Frames.digits(Frames.RQINIT, 0), Frames.bytes(Frames.RQINIT, 24, false),
            Frames.bytes(Frames.RQINIT, 24, true), Frames.name(5, 24, false), Frames.name(5, 24, true)};
        for (int[] row : rows) {
            for (int many = 1; many < row.length; many++) {
                FrameFerry x = Rig.waiting(false);
                Rig.toReceiver(DUE, x, Arrays.copyOf(row, many));
                DUE.same("RINIT", lateOf(x, false), RINIT);
                DUE.same("the rest is passed over", Rig.toReceiver(DUE, x, Arrays.copyOfRange(row, many, row.length)),
                    many < 2 && row[1] == 42 ? RINIT : new int[0]);
                DUE.same("a new one", Rig.toReceiver(DUE, x, Frames.hex(Frames.RQINIT, 0)), RINIT);
            }
        }
    }

    private static void receiverGivesUp() {
        FrameFerry x = Rig.holding(DUE, 6, 100, 1, 2);
        Rig.toReceiver(DUE, x, Arrays.copyOf(Frames.hex(Frames.RQINIT, 0), 9));
        x.late(false);
        Rig.toReceiver(DUE, x, 42, 24, 65, 24);
        x.late(false);
        Rig.toReceiver(DUE, x, Frames.join(Frames.bytes(Frames.DATA, 2, false), new int[] {3, 4, 24}));
        x.late(false);
        Rig.toReceiver(DUE, x, Frames.join(Frames.bytes(Frames.DATA, 2, false), new int[] {3, 4, 24, Frames.E, 0}));
        x.late(false);
        DUE.is("BAD HEADERS", x.count(9), 0);
        DUE.is("BAD PACKETS", x.count(11), 0);
        DUE.same("nothing of it was put", Look.got(x, 6), 1, 2);
        DUE.same("a new one", Rig.toReceiver(DUE, x, Frames.data(2, Frames.W, 5)), Frames.hex(Frames.ACK, 3));
        DUE.same("its byte", Look.got(x, 6), 1, 2, 5);
    }

    private static void receiverWithOneOpen() {
        FrameFerry x = Rig.opened(DUE, 6, 100);
        DUE.same("at 0", lateOf(x, false), Frames.hex(Frames.RPOS, 0));
        Rig.toReceiver(DUE, x, Frames.data(0, Frames.G, 1, 2, 3));
        DUE.same("at 3", lateOf(x, false), Frames.hex(Frames.RPOS, 3));
        DUE.is("it stays open", x.count(4), 6);
        DUE.same("at 3 again", lateOf(x, false), Frames.hex(Frames.RPOS, 3));
    }

    private static void receiverWithout() {
        DUE.same("none yet", lateOf(Rig.waiting(false), false), RINIT);
        DUE.same("with CHECK 32", lateOf(Rig.waiting(true), false), Frames.hex(Frames.RINIT, 32));
        FrameFerry x = Rig.holding(DUE, 6, 100, 1, 2);
        Rig.toReceiver(DUE, x, Frames.bytes(Frames.EOF, 2, false));
        DUE.same("none any more", lateOf(x, false), RINIT);
        Rig.toReceiver(DUE, x, Frames.join(Frames.name(6, 100, false), Frames.bytes(Frames.FILE, 0, false)));
        DUE.same("closed by FILE", lateOf(x, false), RINIT);
    }

    private static void receiverIsDone() {
        DUE.same("a new object", lateOf(new FrameFerry(), false));
        FrameFerry x = Rig.waiting(false);
        Rig.toReceiver(DUE, x, Frames.hex(Frames.FIN, 0));
        DUE.same("behind FIN", lateOf(x, false));
        FrameFerry y = Rig.opened(DUE, 6, 100);
        Rig.toReceiver(DUE, y, Frames.hex(Frames.FIN, 0));
        DUE.same("even with one open", lateOf(y, false));
        DUE.is("DONE", y.count(3), 1);
    }

    private static void howMany() {
        FrameFerry x = Rig.inState(1);
        DUE.is("FILE", x.late(true), Frames.name(2, 100, false).length);
        DUE.is("RINIT", x.late(false), 20);
        DUE.is("none of a DONE sender", Rig.inState(5).late(true), 0);
        DUE.is("none of a DONE receiver", new FrameFerry().late(false), 0);
    }
}
