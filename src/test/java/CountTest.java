/** Promises 13 and 14: got and count. */
public final class CountTest {
    private static final Due DUE = new Due();

    public static void main(String[] args) {
        gotShowsBytes();
        gotRefuses();
        countRefuses();
        countsOfAWholeRun();
        countsSinceTheStart();
        placeBehindStart();
        DUE.end();
    }

    private static void gotShowsBytes() {
        FrameFerry x = Rig.waiting(false);
        Rig.toReceiver(DUE, x, Frames.name(6, 100, false));
        DUE.is("made, but empty", x.got(6, 0), FrameFerry.NONE);
        Rig.toReceiver(DUE, x, Frames.join(Frames.bytes(Frames.DATA, 0, false), Frames.packet(Frames.G, false, 200, 0, 255)));
        DUE.is("open, as far as it is", x.got(6, 0), 200);
        DUE.is("a zero", x.got(6, 1), 0);
        DUE.is("255", x.got(6, 2), 255);
        int[] none = {3, 299, 300, -1, Integer.MIN_VALUE, Integer.MAX_VALUE};
        for (int k : none) {
            DUE.is("got(6, " + k + ")", x.got(6, k), FrameFerry.NONE);
        }
        DUE.is("another letter", x.got(5, 0), FrameFerry.NONE);
        DUE.is("the last letter", x.got(25, 0), FrameFerry.NONE);
    }

    private static void gotRefuses() {
        FrameFerry x = Rig.waiting(false);
        int[] wrong = {-1, 26, Integer.MIN_VALUE, Integer.MAX_VALUE};
        for (int letter : wrong) {
            DUE.argument("got(" + letter + ", 0)", x, () -> x.got(letter, 0));
            DUE.argument("got(" + letter + ", -1)", x, () -> x.got(letter, -1));
        }
    }

    private static void countRefuses() {
        FrameFerry x = Rig.started(true, 3);
        int[] wrong = {-1, 12, Integer.MIN_VALUE, Integer.MAX_VALUE};
        for (int what : wrong) {
            DUE.argument("count(" + what + ")", x, () -> x.count(what));
        }
    }

    private static void seen(String what, FrameFerry x, int... want) {
        DUE.same(what, Look.counts(x), want);
    }

    private static void countsOfAWholeRun() {
        FrameFerry x = Rig.withFile(1, Frames.times(10, 65));
        x.open(2);
        seen("behind open", x, 5, 2, 0, 1, -1, -1, 0, 0, 0, 0, 0, 0);
        x.start(false, 2);
        seen("start", x, 0, 0, 0, 0, -1, -1, 20, 0, 0, 0, 0, 0);
        x.receiver();
        seen("RINIT", x, 0, 0, 0, 0, -1, -1, 0, 20, 1, 0, 0, 0);
        int name = x.sender();
        seen("FILE", x, 1, 0, 0, 0, -1, -1, name, 0, 1, 0, 0, 0);
        x.receiver();
        seen("RPOS", x, 1, 0, 0, 0, 1, 0, 0, 20, 2, 0, 1, 0);
        int data = x.sender();
        seen("DATA", x, 2, 0, 8, 0, 1, 0, data, 0, 2, 0, 1, 0);
        x.receiver();
        seen("got", x, 2, 0, 8, 0, 1, 8, 0, 0, 3, 0, 5, 0);
        int eof = x.sender();
        seen("EOF", x, 3, 0, 10, 0, 1, 8, eof, 0, 3, 0, 5, 0);
        x.receiver();
        seen("RINIT", x, 3, 0, 10, 0, -1, -1, 0, 20, 4, 0, 6, 0);
        name = x.sender();
        seen("the second FILE", x, 1, 1, 0, 0, -1, -1, name, 0, 4, 0, 6, 0);
        x.receiver();
        seen("RPOS", x, 1, 1, 0, 0, 2, 0, 0, 20, 5, 0, 7, 0);
        eof = x.sender();
        seen("an empty one", x, 3, 1, 0, 0, 2, 0, eof, 0, 5, 0, 7, 0);
        x.receiver();
        seen("RINIT", x, 3, 1, 0, 0, -1, -1, 0, 20, 7, 0, 8, 0);
        x.sender();
        seen("FIN", x, 4, 2, 0, 0, -1, -1, 20, 0, 7, 0, 8, 0);
        x.receiver();
        seen("FIN back", x, 4, 2, 0, 1, -1, -1, 2, 20, 8, 0, 8, 0);
        x.sender();
        seen("OO", x, 5, 2, 0, 1, -1, -1, 4, 0, 8, 0, 8, 0);
    }

    private static void countsSinceTheStart() {
        FrameFerry x = Rig.waiting(false);
        Rig.toReceiver(DUE, x, Frames.name(5, 100, false));
        Rig.toReceiver(DUE, x, 42, 24, 66, 0);
        Rig.toReceiver(DUE, x, Frames.join(Frames.bytes(Frames.DATA, 0, false), new int[] {24, 0}));
        seen("before", x, 0, 0, 0, 0, 5, 0, 0, 0, 2, 1, 1, 1);
        x.start(false, 8);
        seen("behind start", x, 0, 0, 0, 0, -1, -1, 20, 0, 0, 0, 0, 0);
    }

    private static void placeBehindStart() {
        FrameFerry x = Rig.withFile(1, Frames.times(10, 65));
        x.start(false, 64);
        for (int i = 0; i < 5; i++) {
            x.receiver();
            x.sender();
        }
        DUE.is("DONE", x.count(0), 5);
        DUE.is("the latest place", x.count(2), 10);
        x.start(false, 64);
        DUE.is("behind start", x.count(2), 0);
        FrameFerry y = Rig.withFile(1, 65);
        y.open(2);
        y.start(false, 64);
        Rig.toSender(DUE, y, Frames.hex(Frames.RINIT, 0));
        Rig.toSender(DUE, y, Frames.hex(Frames.SKIP, 0));
        DUE.is("the second one", y.count(1), 1);
        y.start(false, 64);
        DUE.is("0 in STATE 0", y.count(1), 0);
    }
}
