import java.util.Arrays;

public final class Promise09CrashTest {
    private static final Due DUE = new Due("Promise 9: crash");

    public static void main(String[] args) {
        DUE.test("The RECEIVER crashes", Promise09CrashTest::theReceiverAlone);
        DUE.test("it has its FILES", Promise09CrashTest::files);
        DUE.test("none open", Promise09CrashTest::noneOpen);
        DUE.test("with all that it got", Promise09CrashTest::allThatItGot);
        DUE.test("can CHECK 32 as before", Promise09CrashTest::check32);
        DUE.test("what is counted stays", Promise09CrashTest::counts);
        DUE.test("and is outside", Promise09CrashTest::outside);
        DUE.test("waiting for RQINIT", Promise09CrashTest::rqinit);
        DUE.test("not DONE", Promise09CrashTest::notDone);
        DUE.end();
    }

    private static void theReceiverAlone() {
        FrameFerry x = Rig.inState(2);
        x.late(true);
        x.late(false);
        int[] down = Look.pipe(x, true);
        int[] up = Look.pipe(x, false);
        x.crash();
        DUE.same("DOWN", Look.pipe(x, true), down);
        DUE.same("UP", Look.pipe(x, false), up);
        DUE.is("STATE", x.count(0), 2);
        DUE.is("number", x.count(1), 0);
        DUE.is("place", x.count(2), 64);
        FrameFerry y = Rig.started(false, 8);
        Rig.toSender(DUE, y, Arrays.copyOf(Frames.hex(Frames.RINIT, 0), 9));
        y.crash();
        DUE.same("what the sender is within", Rig.toSender(DUE, y, Arrays.copyOfRange(Frames.hex(Frames.RINIT, 0), 9, 20)),
            Frames.hex(Frames.FIN, 0));
    }

    private static void files() {
        FrameFerry x = Rig.holding(DUE, 3, 9, 5, 6);
        Rig.toReceiver(DUE, x, Frames.join(Frames.bytes(Frames.EOF, 2, false), Frames.name(4, 9, false)));
        x.crash();
        DUE.same("one that was closed", Rig.toReceiver(DUE, x, Frames.name(3, 2, false)), Frames.hex(Frames.SKIP, 0));
        DUE.same("one that was open, and empty", Rig.toReceiver(DUE, x, Frames.name(4, 0, false)), Frames.hex(Frames.SKIP, 0));
    }

    private static void noneOpen() {
        FrameFerry x = Rig.holding(DUE, 3, 9, 5, 6);
        x.crash();
        DUE.is("open", x.count(4), FrameFerry.NONE);
        DUE.is("POSITION", x.count(5), FrameFerry.NONE);
        DUE.same("DATA", Rig.toReceiver(DUE, x, Frames.data(2, Frames.W, 7)));
        DUE.same("EOF", Rig.toReceiver(DUE, x, Frames.bytes(Frames.EOF, 2, false)));
        x.late(false);
        DUE.same("late", Look.pipe(x, false), Frames.hex(Frames.RINIT, 0));
    }

    private static void allThatItGot() {
        FrameFerry x = Rig.withFile(3, Frames.rising(0, 100));
        x.start(true, 16);
        Rig.rounds(x, 2);
        x.receiver();
        x.crash();
        DUE.same("so far", Look.got(x, 3), Frames.rising(0, 64));
        x.start(true, 16);
        Rig.rounds(x, 1);
        x.receiver();
        DUE.same("it goes on", Look.pipe(x, false), Frames.hex(Frames.RPOS, 64));
        x.sender();
        x.receiver();
        DUE.same("all", Look.got(x, 3), Frames.rising(0, 100));
    }

    private static void check32() {
        for (int can = 0; can < 2; can++) {
            FrameFerry x = Rig.started(can == 1, 8);
            x.crash();
            x.receiver();
            DUE.same("RINIT", Look.pipe(x, false), Frames.hex(Frames.RINIT, 32 * can));
        }
        FrameFerry y = new FrameFerry();
        y.crash();
        y.late(false);
        DUE.same("before any start", Look.pipe(y, false), Frames.hex(Frames.RINIT, 0));
    }

    private static void counts() {
        FrameFerry x = Rig.holding(DUE, 5, 100, 1);
        Rig.toReceiver(DUE, x, 42, 24, 66, 0);
        Rig.toReceiver(DUE, x, Frames.join(Frames.bytes(Frames.DATA, 1, false), new int[] {24, 0}));
        Rig.toReceiver(DUE, x, Frames.join(Frames.bytes(Frames.DATA, 1, false), new int[] {24, 0}));
        x.crash();
        DUE.same("counts", Arrays.copyOfRange(Look.counts(x), 8, 12), 4, 1, 2, 2);
    }

    private static void outside() {
        int[][] rows = {Frames.hex(Frames.NAK, 0), Frames.bytes(Frames.NAK, 24, true), Frames.name(5, 24, false)};
        for (int[] row : rows) {
            for (int many = 1; many < row.length; many++) {
                FrameFerry x = Rig.waiting(false);
                Rig.toReceiver(DUE, x, Arrays.copyOf(row, many));
                x.crash();
                DUE.same("RINIT", Rig.toReceiver(DUE, x, Frames.hex(Frames.RQINIT, 0)), Frames.hex(Frames.RINIT, 0));
                DUE.is("BAD ones", x.count(9) + x.count(11), 0);
            }
        }
        FrameFerry y = Rig.holding(DUE, 5, 100, 1);
        Rig.toReceiver(DUE, y, Frames.join(Frames.bytes(Frames.DATA, 1, false), new int[] {2, 3}));
        y.crash();
        DUE.same("out of DATA", Rig.toReceiver(DUE, y, Frames.hex(Frames.RQINIT, 0)), Frames.hex(Frames.RINIT, 0));
        DUE.same("nothing more was put", Look.got(y, 5), 1);
    }

    private static void rqinit() {
        FrameFerry x = Rig.holding(DUE, 3, 9, 5, 6);
        x.crash();
        DUE.same("RINIT", Rig.toReceiver(DUE, x, Frames.hex(Frames.RQINIT, 0)), Frames.hex(Frames.RINIT, 0));
        DUE.same("and all goes on", Rig.toReceiver(DUE, x, Frames.name(3, 9, false)), Frames.hex(Frames.RPOS, 2));
    }

    private static void notDone() {
        FrameFerry x = Rig.waiting(true);
        Rig.toReceiver(DUE, x, Frames.hex(Frames.FIN, 0));
        DUE.is("DONE", x.count(3), 1);
        x.crash();
        DUE.is("behind FIN", x.count(3), 0);
        DUE.same("it reads", Rig.toReceiver(DUE, x, Frames.hex(Frames.RQINIT, 0)), Frames.hex(Frames.RINIT, 32));
        FrameFerry y = new FrameFerry();
        y.crash();
        DUE.is("a new object", y.count(3), 0);
        y.crash();
        DUE.is("again", y.count(3), 0);
    }
}
