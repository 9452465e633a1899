public final class Promise04ClearTest {
    private static final Due DUE = new Due("Promise 4: clear");

    public static void main(String[] args) {
        DUE.test("No files to be sent", Promise04ClearTest::noFiles);
        DUE.test("how many there were", Promise04ClearTest::howMany);
        DUE.test("IllegalState: the SENDER is not DONE", Promise04ClearTest::notDone);
        DUE.end();
    }

    private static void noFiles() {
        FrameFerry x = Rig.withFile(4, 1, 2, 3);
        x.clear();
        DUE.is("count(1)", x.count(1), 0);
        DUE.state("feed", x, () -> x.feed(1, 0, 0, 0, 0));
        x.start(false, 8);
        DUE.same("nothing to send", Rig.toSender(DUE, x, Frames.hex(Frames.RINIT, 0)), Frames.hex(Frames.FIN, 0));
        FrameFerry y = Rig.inState(5);
        y.start(false, 8);
        Rig.rounds(y, 9);
        DUE.is("DONE", y.count(0), 5);
        y.clear();
        DUE.same("what the receiver has stays", Look.got(y, 2), Frames.rising(0, 100));
    }

    private static void howMany() {
        FrameFerry x = new FrameFerry();
        DUE.is("none", x.clear(), 0);
        for (int many = 1; many <= 4; many++) {
            for (int letter = 0; letter < many; letter++) {
                x.open(letter);
            }
            DUE.is("clear of " + many, x.clear(), many);
            DUE.is("clear again", x.clear(), 0);
        }
    }

    private static void notDone() {
        for (int state = 0; state < 5; state++) {
            FrameFerry x = Rig.inState(state);
            DUE.state("clear in STATE " + state, x, x::clear);
        }
        DUE.is("clear in STATE 5", Rig.inState(5).clear(), 1);
        FrameFerry none = Rig.started(false, 8);
        DUE.state("clear of no files", none, none::clear);
    }
}
