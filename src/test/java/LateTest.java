/** Promise 8: late. */
public final class LateTest {
    private static final Due DUE = new Due();
    private static final int[] RINIT = Frames.hex(Frames.RINIT, 0);

    public static void main(String[] args) {
        senderSendsAgain();
        senderInState2();
        senderReadsNothing();
        senderKeepsWhatItIsWithin();
        receiverWithout();
        receiverWithOneOpen();
        receiverGivesUp();
        receiverReadsNothing();
        doneIsNeverLate();
        DUE.end();
    }

    private static int[] lateOf(FrameFerry x, boolean sender) {
        x.lose(sender, 0, 3000);
        int many = x.late(sender);
        int[] sent = Look.pipe(x, sender);
        DUE.is("late in bytes", many, sent.length);
        return sent;
    }

    private static void senderSendsAgain() {
        FrameFerry x = Rig.withFile(6, 1, 2, 3);
        x.start(true, 8);
        DUE.same("in 0", lateOf(x, true), Frames.hex(Frames.RQINIT, 0));
        Rig.toSender(DUE, x, Frames.hex(Frames.RINIT, 32));
        DUE.same("in 1", lateOf(x, true), Frames.name(6, 3, true));
        DUE.same("in 1 again", lateOf(x, true), Frames.name(6, 3, true));
        Rig.toSender(DUE, x, Frames.hex(Frames.RPOS, 0));
        DUE.same("in 3", lateOf(x, true), Frames.bytes(Frames.EOF, 3, true));
        Rig.toSender(DUE, x, RINIT);
        DUE.same("in 4", lateOf(x, true), Frames.hex(Frames.FIN, 0));
        Rig.toSender(DUE, x, Frames.hex(Frames.FIN, 0));
        DUE.same("in 5", lateOf(x, true), new int[0]);
    }

    private static void senderInState2() {
        FrameFerry x = Rig.withFile(6, Frames.rising(40, 20));
        x.start(false, 2);
        Rig.toSender(DUE, x, RINIT);
        Rig.toSender(DUE, x, Frames.hex(Frames.RPOS, 0));
        DUE.is("place", x.count(2), 8);
        int[] want = Frames.bytes(Frames.DATA, 8, false);
        for (int i = 48; i < 56; i += 2) {
            want = Frames.join(want, Frames.packet(Frames.G, false, i, i + 1));
        }
        DUE.same("on from its place, DATA first", lateOf(x, true), want);
        DUE.is("place", x.count(2), 16);
        DUE.is("STATE", x.count(0), 2);
        DUE.same("and once more, to the end", lateOf(x, true), Frames.join(Frames.bytes(Frames.DATA, 16, false),
            Frames.packet(Frames.G, false, 56, 57), Frames.packet(Frames.E, false, 58, 59), Frames.bytes(Frames.EOF, 20, false)));
        DUE.is("STATE", x.count(0), 3);
    }

    private static void senderReadsNothing() {
        FrameFerry x = Rig.withFile(6, 1, 2, 3);
        x.start(false, 2);
        x.receiver();
        DUE.same("RQINIT", lateOf(x, true), Frames.hex(Frames.RQINIT, 0));
        DUE.is("UP is as it was", x.count(7), 20);
        DUE.is("STATE", x.count(0), 0);
    }

    private static void senderKeepsWhatItIsWithin() {
        FrameFerry x = Rig.withFile(6, 1, 2, 3);
        x.start(false, 2);
        int[] first = java.util.Arrays.copyOf(RINIT, 9);
        int[] rest = java.util.Arrays.copyOfRange(RINIT, 9, 20);
        Rig.toSender(DUE, x, first);
        x.late(true);
        DUE.same("the rest of a header", Rig.toSender(DUE, x, rest), Frames.name(6, 3, false));
    }

    private static void receiverWithout() {
        DUE.same("RINIT", lateOf(Rig.waiting(false), false), RINIT);
        DUE.same("RINIT 32", lateOf(Rig.waiting(true), false), Frames.hex(Frames.RINIT, 32));
    }

    private static void receiverWithOneOpen() {
        FrameFerry x = Rig.waiting(false);
        Rig.toReceiver(DUE, x, Frames.name(6, 100, false));
        DUE.same("RPOS", lateOf(x, false), Frames.hex(Frames.RPOS, 0));
        Rig.toReceiver(DUE, x, Frames.join(Frames.bytes(Frames.DATA, 0, false), Frames.packet(Frames.G, false, 1, 2, 3)));
        DUE.same("RPOS", lateOf(x, false), Frames.hex(Frames.RPOS, 3));
        DUE.is("it stays open", x.count(4), 6);
    }

    private static void receiverGivesUp() {
        FrameFerry x = Rig.waiting(false);
        Rig.toReceiver(DUE, x, java.util.Arrays.copyOf(Frames.hex(Frames.RQINIT, 0), 9));
        DUE.same("RINIT", lateOf(x, false), RINIT);
        DUE.same("a header is given up", Rig.toReceiver(DUE, x, Frames.hex(Frames.RQINIT, 0)), RINIT);
        Rig.toReceiver(DUE, x, Frames.bytes(Frames.FILE, 0, false));
        DUE.same("RINIT", lateOf(x, false), RINIT);
        DUE.same("a FILE is given up", Rig.toReceiver(DUE, x, Frames.hex(Frames.RQINIT, 0)), RINIT);
        Rig.toReceiver(DUE, x, Frames.name(6, 100, false));
        Rig.toReceiver(DUE, x, Frames.join(Frames.bytes(Frames.DATA, 0, false), new int[] {1, 2, 24}));
        DUE.same("RPOS", lateOf(x, false), Frames.hex(Frames.RPOS, 0));
        DUE.same("a PACKET is given up", Rig.toReceiver(DUE, x, Frames.hex(Frames.RQINIT, 0)), RINIT);
        Rig.toReceiver(DUE, x, 42, 24, 65, 24);
        DUE.same("RPOS", lateOf(x, false), Frames.hex(Frames.RPOS, 0));
        DUE.same("an escape is given up", Rig.toReceiver(DUE, x, Frames.bytes(Frames.RQINIT, 0, false)), RINIT);
        Rig.toReceiver(DUE, x, java.util.Arrays.copyOf(Frames.hex(Frames.RQINIT, 0), 9));
        x.late(false);
        DUE.same("half a byte is given up", Rig.toReceiver(DUE, x, Frames.hex(Frames.RQINIT, 0)), RINIT);
        DUE.is("no BAD HEADER", x.count(9), 0);
        DUE.is("no BAD PACKET", x.count(11), 0);
        DUE.is("good HEADERS", x.count(8), 8);
    }

    private static void receiverReadsNothing() {
        FrameFerry x = Rig.started(false, 8);
        DUE.same("RINIT", lateOf(x, false), RINIT);
        DUE.is("DOWN is as it was", x.count(6), 20);
        DUE.is("good HEADERS", x.count(8), 0);
    }

    private static void doneIsNeverLate() {
        FrameFerry x = Rig.waiting(false);
        Rig.toReceiver(DUE, x, Frames.hex(Frames.FIN, 0));
        DUE.same("nothing", lateOf(x, false), new int[0]);
    }
}
