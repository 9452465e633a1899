/** Promises 5 and 9: start and crash. */
public final class StartTest {
    private static final Due DUE = new Due();

    public static void main(String[] args) {
        startSendsRqinit();
        startRefuses();
        startAtAnyTime();
        startForgetsWhatWasRead();
        startKeepsFiles();
        startSetsSize();
        startSetsCheck();
        crashKeepsFiles();
        crashGivesUpWhatWasRead();
        crashKeepsCounts();
        crashOfNewObject();
        crashWakesReceiver();
        DUE.end();
    }

    private static void startSendsRqinit() {
        FrameFerry x = Rig.started(true, 1);
        DUE.same("DOWN behind start", Look.pipe(x, true), Frames.hex(Frames.RQINIT, 0));
        DUE.same("counts behind start", Look.counts(x), new int[] {0, 0, 0, 0, -1, -1, 20, 0, 0, 0, 0, 0});
    }

    private static void startRefuses() {
        FrameFerry x = new FrameFerry();
        int[] wrong = {0, 65, -1, Integer.MIN_VALUE, Integer.MAX_VALUE};
        for (int size : wrong) {
            DUE.argument("start(" + size + ")", x, () -> x.start(true, size));
        }
        x.start(false, 64);
        DUE.argument("start(65) behind start", x, () -> x.start(true, 65));
    }

    private static void startAtAnyTime() {
        FrameFerry x = Rig.withFile(3, Frames.rising(0, 100));
        x.open(7);
        x.start(true, 8);
        x.receiver();
        x.sender();
        x.receiver();
        x.sender();
        x.receiver();
        x.late(false);
        DUE.is("an open file before", x.count(4), 3);
        DUE.is("its place before", x.count(2), 32);
        x.start(true, 8);
        DUE.same("counts behind start", Look.counts(x), new int[] {0, 0, 0, 0, -1, -1, 20, 0, 0, 0, 0, 0});
        DUE.is("got stays", Look.got(x, 3).length, 32);
    }

    private static void startForgetsWhatWasRead() {
        FrameFerry x = Rig.started(false, 32);
        Rig.toReceiver(DUE, x, 42, 24, 65);
        Rig.toSender(DUE, x, 42, 24, 65);
        x.start(false, 32);
        DUE.is("receiver is outside behind start", x.receiver(), 20);
        DUE.is("sender is outside behind start", x.sender(), 20);
        DUE.is("STATE", x.count(0), 4);
    }

    private static void startKeepsFiles() {
        FrameFerry x = Rig.withFile(3, 9, 8, 7);
        x.start(false, 8);
        x.start(false, 8);
        x.receiver();
        DUE.same("FILE behind the second start", senderSends(x), Frames.name(3, 3, false));
    }

    private static void startSetsSize() {
        for (int size = 1; size <= 64; size += 21) {
            FrameFerry x = Rig.withFile(0, Frames.times(300, 65));
            x.start(false, size);
            x.receiver();
            x.sender();
            x.receiver();
            x.sender();
            DUE.is("place with SIZE " + size, x.count(2), 4 * size);
        }
    }

    private static void startSetsCheck() {
        FrameFerry x = Rig.withFile(3, 9, 8, 7);
        x.start(true, 8);
        x.receiver();
        DUE.same("RINIT with 32", Look.pipe(x, false), Frames.hex(Frames.RINIT, 32));
        DUE.same("FILE with 32", senderSends(x), Frames.name(3, 3, true));
        x.start(false, 8);
        DUE.same("RQINIT", Look.pipe(x, true), Frames.hex(Frames.RQINIT, 0));
        x.receiver();
        DUE.same("RINIT without", Look.pipe(x, false), Frames.hex(Frames.RINIT, 0));
        DUE.same("FILE without", senderSends(x), Frames.name(3, 3, false));
    }

    private static int[] senderSends(FrameFerry x) {
        x.lose(true, 0, 3000);
        x.sender();
        return Look.pipe(x, true);
    }

    private static void crashKeepsFiles() {
        FrameFerry x = Rig.withFile(3, Frames.rising(0, 100));
        x.start(true, 16);
        x.receiver();
        x.sender();
        x.receiver();
        x.sender();
        x.receiver();
        x.crash();
        DUE.is("none open", x.count(4), FrameFerry.NONE);
        DUE.is("no POSITION", x.count(5), FrameFerry.NONE);
        DUE.is("not DONE", x.count(3), 0);
        DUE.same("what it got", Look.got(x, 3), Frames.rising(0, 64));
        DUE.is("RINIT behind a crash", x.late(false), 20);
        DUE.same("it can CHECK 32 as before", Look.pipe(x, false), Frames.hex(Frames.RINIT, 32));
        x.start(true, 16);
        x.receiver();
        x.sender();
        x.receiver();
        DUE.same("it goes on", Look.pipe(x, false), Frames.hex(Frames.RPOS, 64));
        x.sender();
        x.receiver();
        DUE.same("all of it", Look.got(x, 3), Frames.rising(0, 100));
    }

    private static void crashGivesUpWhatWasRead() {
        FrameFerry x = Rig.waiting(false);
        Rig.toReceiver(DUE, x, Frames.name(5, 100, false));
        Rig.toReceiver(DUE, x, Frames.join(Frames.bytes(Frames.DATA, 0, false), new int[] {1, 2, 3}));
        x.crash();
        DUE.same("RQINIT is read", Rig.toReceiver(DUE, x, Frames.hex(Frames.RQINIT, 0)), Frames.hex(Frames.RINIT, 0));
        DUE.is("no BAD PACKET", x.count(11), 0);
    }

    private static void crashKeepsCounts() {
        FrameFerry x = Rig.waiting(false);
        Rig.toReceiver(DUE, x, Frames.name(5, 100, false));
        Rig.toReceiver(DUE, x, 42, 24, 66, 0);
        Rig.toReceiver(DUE, x, Frames.join(Frames.bytes(Frames.DATA, 0, false), new int[] {24, 0}));
        x.crash();
        DUE.is("good HEADERS", x.count(8), 2);
        DUE.is("BAD HEADERS", x.count(9), 1);
        DUE.is("good PACKETS", x.count(10), 1);
        DUE.is("BAD PACKETS", x.count(11), 1);
    }

    private static void crashOfNewObject() {
        FrameFerry x = new FrameFerry();
        x.crash();
        DUE.is("not DONE", x.count(3), 0);
        DUE.is("RINIT", x.late(false), 20);
        DUE.same("it can't CHECK 32", Look.pipe(x, false), Frames.hex(Frames.RINIT, 0));
    }

    private static void crashWakesReceiver() {
        FrameFerry x = Rig.waiting(true);
        Rig.toReceiver(DUE, x, Frames.hex(Frames.FIN, 0));
        DUE.is("DONE", x.count(3), 1);
        x.crash();
        DUE.is("not DONE", x.count(3), 0);
        DUE.same("RINIT", Rig.toReceiver(DUE, x, Frames.hex(Frames.RQINIT, 0)), Frames.hex(Frames.RINIT, 32));
    }
}
