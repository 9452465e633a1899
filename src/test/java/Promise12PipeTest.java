public final class Promise12PipeTest {
    private static final Due DUE = new Due("Promise 12: pipe");

    public static void main(String[] args) {
        DUE.test("Byte k of a PIPE", Promise12PipeTest::bytes);
        DUE.test("NONE if there is none", Promise12PipeTest::none);
        DUE.end();
    }

    private static void bytes() {
        FrameFerry x = Rig.started(false, 8);
        Rig.put(x, false, 0, 127, 128, 255);
        int[] down = Frames.hex(Frames.RQINIT, 0);
        for (int k = 0; k < down.length; k++) {
            DUE.is("byte " + k + " of DOWN", x.pipe(true, k), down[k]);
        }
        DUE.is("0 of UP", x.pipe(false, 0), 0);
        DUE.is("1 of UP", x.pipe(false, 1), 127);
        DUE.is("2 of UP", x.pipe(false, 2), 128);
        DUE.is("3 of UP", x.pipe(false, 3), 255);
        DUE.is("0 of UP again", x.pipe(false, 0), 0);
        Rig.fill(x, true);
        DUE.is("the last of a full one", x.pipe(true, 2999), 10);
    }

    private static void none() {
        FrameFerry x = Rig.started(false, 8);
        int[] none = {-1, 20, 2999, 3000, Integer.MIN_VALUE, Integer.MAX_VALUE};
        for (int k : none) {
            DUE.is("byte " + k + " of DOWN", x.pipe(true, k), FrameFerry.NONE);
            DUE.is("byte " + k + " of UP", x.pipe(false, k), FrameFerry.NONE);
        }
        DUE.is("the first of UP", x.pipe(false, 0), FrameFerry.NONE);
        x.lose(true, 5, 1);
        DUE.is("behind a loss", x.pipe(true, 19), FrameFerry.NONE);
        Rig.fill(x, true);
        DUE.is("behind a full one", x.pipe(true, 3000), FrameFerry.NONE);
    }
}
