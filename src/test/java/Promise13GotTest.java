public final class Promise13GotTest {
    private static final Due DUE = new Due("Promise 13: got");

    public static void main(String[] args) {
        DUE.test("Byte k of a FILE that the RECEIVER has", Promise13GotTest::bytes);
        DUE.test("open ones, as far as they are", Promise13GotTest::openOnes);
        DUE.test("NONE if there is none", Promise13GotTest::none);
        DUE.test("IllegalArgument: letter not 0 .. 25", Promise13GotTest::wrongLetters);
        DUE.end();
    }

    private static void bytes() {
        for (int letter = 0; letter < 26; letter += 25) {
            FrameFerry x = Rig.holding(DUE, letter, 100, 200, 0, 255, 24);
            Rig.toReceiver(DUE, x, Frames.bytes(Frames.EOF, 4, false));
            DUE.is("none is open", x.count(4), FrameFerry.NONE);
            DUE.is("0", x.got(letter, 0), 200);
            DUE.is("1", x.got(letter, 1), 0);
            DUE.is("2", x.got(letter, 2), 255);
            DUE.is("3", x.got(letter, 3), 24);
        }
        FrameFerry y = Rig.withFile(7, Frames.rising(1, 300));
        y.start(true, 64);
        Rig.rounds(y, 9);
        DUE.is("the last of 300", y.got(7, 299), 300 & 255);
        DUE.is("behind it", y.got(7, 300), FrameFerry.NONE);
    }

    private static void openOnes() {
        FrameFerry x = Rig.opened(DUE, 6, 100);
        DUE.is("nothing yet", x.got(6, 0), FrameFerry.NONE);
        Rig.toReceiver(DUE, x, Frames.data(0, Frames.G, 7, 8));
        DUE.is("the first", x.got(6, 0), 7);
        DUE.is("the second", x.got(6, 1), 8);
        DUE.is("no third yet", x.got(6, 2), FrameFerry.NONE);
        Rig.toReceiver(DUE, x, 9, 24, Frames.G);
        DUE.is("nor of a PACKET that has not ended", x.got(6, 2), FrameFerry.NONE);
    }

    private static void none() {
        FrameFerry x = Rig.holding(DUE, 6, 100, 1, 2, 3);
        int[] none = {-1, 3, 99, 299, 300, Integer.MIN_VALUE, Integer.MAX_VALUE};
        for (int k : none) {
            DUE.is("byte " + k, x.got(6, k), FrameFerry.NONE);
        }
        DUE.is("a letter beside it", x.got(5, 0), FrameFerry.NONE);
        DUE.is("the other one beside it", x.got(7, 0), FrameFerry.NONE);
        FrameFerry y = Rig.withFile(6, 1, 2, 3);
        DUE.is("one that is only to be sent", y.got(6, 0), FrameFerry.NONE);
    }

    private static void wrongLetters() {
        int[] wrong = {-1, 26, 97, Integer.MIN_VALUE, Integer.MAX_VALUE};
        for (int letter : wrong) {
            FrameFerry x = Rig.waiting(false);
            DUE.argument("letter " + letter, x, () -> x.got(letter, 0));
            DUE.argument("letter " + letter + ", no byte", x, () -> x.got(letter, -1));
        }
    }
}
