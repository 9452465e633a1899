import java.util.Arrays;

public final class Promise14CountTest {
    private static final Due DUE = new Due("Promise 14: count");

    public static void main(String[] args) {
        DUE.test("What = 0 the SENDER's STATE", Promise14CountTest::state);
        DUE.test("1 the number of its file (from 0 on", Promise14CountTest::number);
        DUE.test("0 in STATE 0", Promise14CountTest::numberInState0);
        DUE.test("how many there are, if it has none at hand, as behind open", Promise14CountTest::noneAtHand);
        DUE.test("2 its place in it (the latest", Promise14CountTest::place);
        DUE.test("0 behind clear", Promise14CountTest::placeBehindClear);
        DUE.test("3 whether the RECEIVER is DONE (1 or 0)", Promise14CountTest::receiverIsDone);
        DUE.test("4 the letter of the FILE that is open (NONE)", Promise14CountTest::letter);
        DUE.test("5 POSITION (NONE)", Promise14CountTest::position);
        DUE.test("6 bytes in DOWN", Promise14CountTest::bytesInDown);
        DUE.test("7 in UP", Promise14CountTest::bytesInUp);
        DUE.test("of the RECEIVER since the start", Promise14CountTest::sinceTheStart);
        DUE.test("8 good HEADERS", Promise14CountTest::goodHeaders);
        DUE.test("9 BAD ones", Promise14CountTest::badHeaders);
        DUE.test("10 good PACKETS", Promise14CountTest::goodPackets);
        DUE.test("11 BAD ones", Promise14CountTest::badPackets);
        DUE.test("IllegalArgument: another what", Promise14CountTest::another);
        wholeRun();
        DUE.end();
    }

    private static FrameFerry twoFiles() {
        FrameFerry x = Rig.withFile(1, Frames.times(10, 65));
        x.open(2);
        x.start(false, 2);
        return x;
    }

    private static void state() {
        for (int state = 0; state <= 5; state++) {
            DUE.is("STATE", Rig.inState(state).count(0), state);
        }
    }

    private static void number() {
        FrameFerry x = Rig.withFile(25, 1);
        x.open(0);
        x.open(24);
        x.open(1);
        x.start(false, 8);
        Rig.toSender(DUE, x, Frames.hex(Frames.RINIT, 0));
        for (int number = 0; number < 4; number++) {
            DUE.is("in STATE 1", x.count(1), number);
            Rig.toSender(DUE, x, Frames.hex(Frames.RPOS, 0));
            DUE.is("in STATE 3", x.count(1), number);
            Rig.toSender(DUE, x, Frames.hex(Frames.RINIT, 0));
        }
        DUE.is("in STATE 2", Rig.inState(2).count(1), 0);
    }

    private static void numberInState0() {
        FrameFerry x = twoFiles();
        DUE.is("behind start", x.count(1), 0);
        Rig.toSender(DUE, x, Frames.hex(Frames.RINIT, 0));
        Rig.toSender(DUE, x, Frames.hex(Frames.SKIP, 0));
        DUE.is("the second one", x.count(1), 1);
        x.start(false, 2);
        DUE.is("behind another start", x.count(1), 0);
        FrameFerry y = Rig.inState(5);
        y.start(false, 8);
        DUE.is("behind DONE", y.count(1), 0);
    }

    private static void noneAtHand() {
        FrameFerry x = new FrameFerry();
        DUE.is("no file", x.count(1), 0);
        for (int letter = 0; letter < 4; letter++) {
            x.open(letter);
            DUE.is("behind open", x.count(1), letter + 1);
        }
        x.clear();
        DUE.is("behind clear", x.count(1), 0);
        DUE.is("in STATE 4", Rig.inState(4).count(1), 1);
        FrameFerry y = Rig.inState(5);
        DUE.is("in STATE 5", y.count(1), 1);
        y.open(9);
        DUE.is("one more", y.count(1), 2);
        FrameFerry none = Rig.started(false, 8);
        Rig.toSender(DUE, none, Frames.hex(Frames.RINIT, 0));
        DUE.is("in STATE 4 without files", none.count(1), 0);
    }

    private static void place() {
        FrameFerry x = twoFiles();
        DUE.is("in STATE 0", x.count(2), 0);
        Rig.toSender(DUE, x, Frames.hex(Frames.RINIT, 0));
        DUE.is("in STATE 1", x.count(2), 0);
        Rig.toSender(DUE, x, Frames.hex(Frames.RPOS, 1));
        DUE.is("in STATE 2", x.count(2), 9);
        x.sender();
        DUE.is("in STATE 3", x.count(2), 10);
        Rig.toSender(DUE, x, Frames.hex(Frames.RINIT, 0));
        DUE.is("of the next file", x.count(2), 0);
        x.start(false, 2);
        Rig.toSender(DUE, x, Frames.hex(Frames.RINIT, 0));
        Rig.toSender(DUE, x, Frames.hex(Frames.RPOS, 0));
        DUE.is("in STATE 2", x.count(2), 8);
        Rig.toSender(DUE, x, Frames.hex(Frames.RPOS, 11));
        DUE.is("RPOS above the length", x.count(2), 10);
        DUE.is("in STATE 4", Rig.inState(4).count(2), 100);
        DUE.is("in STATE 5", Rig.inState(5).count(2), 100);
    }

    private static void placeBehindClear() {
        FrameFerry x = Rig.inState(5);
        DUE.is("before", x.count(2), 100);
        x.open(7);
        DUE.is("behind open", x.count(2), 100);
        x.clear();
        DUE.is("behind clear", x.count(2), 0);
    }

    private static void receiverIsDone() {
        FrameFerry x = new FrameFerry();
        DUE.is("new", x.count(3), 1);
        x.start(false, 8);
        DUE.is("started", x.count(3), 0);
        Rig.toReceiver(DUE, x, Frames.hex(Frames.FIN, 0));
        DUE.is("behind FIN", x.count(3), 1);
    }

    private static void letter() {
        for (int letter = 0; letter < 26; letter++) {
            FrameFerry x = Rig.waiting(false);
            DUE.is("none", x.count(4), FrameFerry.NONE);
            Rig.toReceiver(DUE, x, Frames.name(letter, 5, false));
            DUE.is("open", x.count(4), letter);
            Rig.toReceiver(DUE, x, Frames.name(25 - letter, 5, false));
            DUE.is("another one", x.count(4), 25 - letter);
            Rig.toReceiver(DUE, x, Frames.bytes(Frames.EOF, 0, false));
            DUE.is("closed", x.count(4), FrameFerry.NONE);
        }
    }

    private static void position() {
        FrameFerry x = Rig.waiting(false);
        DUE.is("none", x.count(5), FrameFerry.NONE);
        Rig.toReceiver(DUE, x, Frames.name(3, 9, false));
        DUE.is("made", x.count(5), 0);
        Rig.toReceiver(DUE, x, Frames.data(0, Frames.G, 7, 8));
        DUE.is("two", x.count(5), 2);
        Rig.toReceiver(DUE, x, Frames.packet(Frames.E, false, 9));
        DUE.is("three", x.count(5), 3);
        Rig.toReceiver(DUE, x, Frames.bytes(Frames.EOF, 3, false));
        DUE.is("closed", x.count(5), FrameFerry.NONE);
    }

    private static void bytesInDown() {
        FrameFerry x = Rig.started(false, 8);
        DUE.is("RQINIT", x.count(6), 20);
        x.late(true);
        DUE.is("once more", x.count(6), 40);
        x.lose(true, 0, 3);
        DUE.is("less", x.count(6), 37);
        x.receiver();
        DUE.is("read", x.count(6), 0);
    }

    private static void bytesInUp() {
        FrameFerry x = Rig.started(false, 8);
        DUE.is("none", x.count(7), 0);
        x.late(false);
        DUE.is("RINIT", x.count(7), 20);
        x.lose(false, 19, 5);
        DUE.is("less", x.count(7), 19);
        x.sender();
        DUE.is("read", x.count(7), 0);
    }

    private static int[] counted(FrameFerry x) {
        return Arrays.copyOfRange(Look.counts(x), 8, 12);
    }

    private static void sinceTheStart() {
        FrameFerry x = Rig.holding(DUE, 5, 100, 1);
        Rig.toReceiver(DUE, x, 42, 24, 66, 0);
        Rig.toReceiver(DUE, x, Frames.join(Frames.bytes(Frames.DATA, 1, false), new int[] {24, 0}));
        DUE.same("before", counted(x), 3, 1, 2, 1);
        Rig.put(x, false, Frames.hex(Frames.ACK, 0));
        x.sender();
        DUE.same("what the sender reads is not counted", counted(x), 3, 1, 2, 1);
        x.start(false, 8);
        DUE.same("behind start", counted(x), 0, 0, 0, 0);
    }

    private static void goodHeaders() {
        int[] types = {0, 1, 2, 3, 5, 6, 7, 9, 11, 12, 255};
        for (int type : types) {
            FrameFerry x = Rig.waiting(false);
            Rig.toReceiver(DUE, x, Frames.hex(type, 5));
            DUE.is("type " + type, x.count(8), 1);
            Rig.toReceiver(DUE, x, Frames.bytes(type, 5, true));
            DUE.is("type " + type, x.count(8), 2);
        }
        FrameFerry y = Rig.waiting(false);
        Rig.toReceiver(DUE, y, Frames.join(Frames.hex(Frames.FILE, 0), Frames.hex(Frames.DATA, 0), Frames.data(0, Frames.E, 1)));
        Rig.toReceiver(DUE, y, Frames.bytes(Frames.FILE, 0, false));
        y.late(false);
        Rig.toReceiver(DUE, y, Frames.hex(Frames.FIN, 0));
        DUE.same("those that nothing comes of, and FIN", counted(y), 5, 0, 0, 0);
    }

    private static void badHeaders() {
        FrameFerry x = Rig.waiting(false);
        Rig.toReceiver(DUE, x, 42, 24, 66, 'x');
        DUE.same("no digit", counted(x), 0, 1, 0, 0);
        Rig.toReceiver(DUE, x, 42, 24, 65, 24, 0);
        DUE.same("a BAD byte", counted(x), 0, 2, 0, 0);
        int[] row = Frames.bytes(Frames.RQINIT, 0, true);
        row[row.length - 1] ^= 1;
        Rig.toReceiver(DUE, x, row);
        DUE.same("a wrong CHECK", counted(x), 0, 3, 0, 0);
        Rig.toReceiver(DUE, x, 42, 24, 0, 42, 0, 24, 66);
        DUE.same("none begun", counted(x), 0, 3, 0, 0);
    }

    private static void goodPackets() {
        FrameFerry x = Rig.waiting(false);
        Rig.toReceiver(DUE, x, Frames.join(Frames.bytes(Frames.FILE, 0, false), Frames.packet(Frames.W, false, 1)));
        DUE.same("behind FILE, though NAK comes", counted(x), 1, 0, 1, 0);
        Rig.toReceiver(DUE, x, Frames.name(3, 5, false));
        DUE.same("behind FILE", counted(x), 2, 0, 2, 0);
        Rig.toReceiver(DUE, x, Frames.join(Frames.data(0, Frames.G), Frames.packet(Frames.Q, false, 1),
            Frames.packet(Frames.W, false)));
        DUE.same("three more, two of them empty", counted(x), 3, 0, 5, 0);
        Rig.toReceiver(DUE, x, Frames.data(5, Frames.E, 1));
        DUE.same("none at another place", counted(x), 4, 0, 5, 0);
    }

    private static void badPackets() {
        FrameFerry x = Rig.waiting(false);
        Rig.toReceiver(DUE, x, Frames.join(Frames.bytes(Frames.FILE, 0, false), new int[] {24, 0}));
        DUE.same("behind FILE", counted(x), 1, 0, 0, 1);
        FrameFerry y = Rig.opened(DUE, 3, 5);
        Rig.toReceiver(DUE, y, Frames.join(Frames.bytes(Frames.DATA, 0, false), Frames.times(65, 49)));
        DUE.same("the 65th byte", counted(y), 2, 0, 1, 1);
        Rig.toReceiver(DUE, y, Frames.join(Frames.bytes(Frames.DATA, 0, false), new int[] {24, Frames.E, 0, 0}));
        DUE.same("a wrong CHECK", counted(y), 3, 0, 1, 2);
    }

    private static void another() {
        int[] wrong = {-1, 12, 256, Integer.MIN_VALUE, Integer.MAX_VALUE};
        for (int what : wrong) {
            FrameFerry x = Rig.started(true, 3);
            DUE.argument("count(" + what + ")", x, () -> x.count(what));
        }
    }

    private static void seen(String what, FrameFerry x, int... want) {
        DUE.same(what, Look.counts(x), want);
    }

    /** All twelve of them, call by call, through a whole run of two files. */
    private static void wholeRun() {
        FrameFerry x = Rig.withFile(1, Frames.times(10, 65));
        x.open(2);
        seen("behind open", x, 5, 2, 0, 1, -1, -1, 0, 0, 0, 0, 0, 0);
        x.start(false, 2);
        seen("start", x, 0, 0, 0, 0, -1, -1, 20, 0, 0, 0, 0, 0);
        x.receiver();
        seen("RINIT", x, 0, 0, 0, 0, -1, -1, 0, 20, 1, 0, 0, 0);
        int name = x.sender();
        seen("FILE", x, 1, 0, 0, 0, -1, -1, name, 0, 1, 0, 0, 0);
        x.receiver();
        seen("RPOS", x, 1, 0, 0, 0, 1, 0, 0, 20, 2, 0, 1, 0);
        int data = x.sender();
        seen("DATA", x, 2, 0, 8, 0, 1, 0, data, 0, 2, 0, 1, 0);
        x.receiver();
        seen("got", x, 2, 0, 8, 0, 1, 8, 0, 0, 3, 0, 5, 0);
        int eof = x.sender();
        seen("EOF", x, 3, 0, 10, 0, 1, 8, eof, 0, 3, 0, 5, 0);
        x.receiver();
        seen("RINIT", x, 3, 0, 10, 0, -1, -1, 0, 20, 4, 0, 6, 0);
        name = x.sender();
        seen("the second FILE", x, 1, 1, 0, 0, -1, -1, name, 0, 4, 0, 6, 0);
        x.receiver();
        seen("RPOS", x, 1, 1, 0, 0, 2, 0, 0, 20, 5, 0, 7, 0);
        eof = x.sender();
        seen("an empty one", x, 3, 1, 0, 0, 2, 0, eof, 0, 5, 0, 7, 0);
        x.receiver();
        seen("RINIT", x, 3, 1, 0, 0, -1, -1, 0, 20, 7, 0, 8, 0);
        x.sender();
        seen("FIN", x, 4, 2, 0, 0, -1, -1, 20, 0, 7, 0, 8, 0);
        x.receiver();
        seen("FIN back", x, 4, 2, 0, 1, -1, -1, 2, 20, 8, 0, 8, 0);
        x.sender();
        seen("OO", x, 5, 2, 0, 1, -1, -1, 4, 0, 8, 0, 8, 0);
    }
}
