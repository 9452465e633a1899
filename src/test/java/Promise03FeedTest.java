import java.util.Arrays;

public final class Promise03FeedTest {
    private static final Due DUE = new Due("Promise 3: feed");

    public static void main(String[] args) {
        DUE.test("Up to sixteen bytes more", Promise03FeedTest::sixteenMore);
        DUE.test("four in each number, the highest first", Promise03FeedTest::highestFirst);
        DUE.test("many of them", Promise03FeedTest::manyOfThem);
        DUE.test("perhaps none", Promise03FeedTest::none);
        DUE.test("the rest is not looked at", Promise03FeedTest::theRest);
        DUE.test("of the file opened last", Promise03FeedTest::openedLast);
        DUE.test("its length", Promise03FeedTest::length);
        DUE.test("IllegalArgument: many is not 0 .. 16", Promise03FeedTest::many);
        DUE.test("IllegalState: there is no file", Promise03FeedTest::noFile);
        DUE.test("it would have more than 300", Promise03FeedTest::moreThan300);
        DUE.test("or the SENDER is not DONE", Promise03FeedTest::notDone);
        DUE.end();
    }

    /** What the receiver has in the end of a file of at most 256 bytes. */
    private static int[] sentOf(FrameFerry x, int letter) {
        x.start(false, 64);
        Rig.rounds(x, 2);
        x.receiver();
        return Look.got(x, letter);
    }

    private static FrameFerry empty(int letter) {
        FrameFerry x = new FrameFerry();
        x.open(letter);
        return x;
    }

    private static FrameFerry filled(int many) {
        FrameFerry x = empty(2);
        Rig.feed(x, Frames.times(many, 65));
        return x;
    }

    private static void sixteenMore() {
        FrameFerry x = empty(8);
        x.feed(16, 0x01020304, 0x05060708, 0x090a0b0c, 0x0d0e0f10);
        x.feed(16, 0x11121314, 0x15161718, 0x191a1b1c, 0x1d1e1f20);
        DUE.same("32 bytes", sentOf(x, 8), Frames.rising(1, 32));
    }

    private static void highestFirst() {
        FrameFerry x = empty(8);
        x.feed(16, 0xfffefdfc, 0x7f800081, 0x80000000, 0x00000001);
        DUE.same("bytes", sentOf(x, 8), 255, 254, 253, 252, 127, 128, 0, 129, 128, 0, 0, 0, 0, 0, 0, 1);
    }

    private static void manyOfThem() {
        for (int many = 0; many <= 16; many++) {
            FrameFerry x = empty(8);
            DUE.is("feed(" + many + ")", x.feed(many, 0x01020304, 0x05060708, 0x090a0b0c, 0x0d0e0f10), many);
            DUE.same(many + " bytes", sentOf(x, 8), Frames.rising(1, many));
        }
    }

    private static void none() {
        FrameFerry x = empty(8);
        DUE.is("none of an empty one", x.feed(0, -1, -1, -1, -1), 0);
        x.feed(1, 0x09000000, 0, 0, 0);
        DUE.is("none behind one", x.feed(0, -1, -1, -1, -1), 1);
        DUE.same("one byte", sentOf(x, 8), 9);
        DUE.is("none of a full one", filled(300).feed(0, -1, -1, -1, -1), 300);
    }

    private static void theRest() {
        FrameFerry x = empty(8);
        x.feed(1, 0x01777777, 0x77777777, -1, Integer.MIN_VALUE);
        x.feed(5, 0x02030405, 0x06777777, -1, Integer.MIN_VALUE);
        x.feed(9, 0x0708090a, 0x0b0c0d0e, 0x0fffffff, Integer.MIN_VALUE);
        x.feed(13, 0x10111213, 0x14151617, 0x18191a1b, 0x1c777777);
        DUE.same("without the rest", sentOf(x, 8), Frames.rising(1, 28));
    }

    private static void openedLast() {
        FrameFerry x = Rig.withFile(8, 1, 2);
        x.open(3);
        DUE.is("the second one", x.feed(3, 0x03040500, 0, 0, 0), 3);
        x.start(false, 8);
        Rig.rounds(x, 6);
        DUE.same("the first one", Look.got(x, 8), 1, 2);
        DUE.same("the second one", Look.got(x, 3), 3, 4, 5);
    }

    private static void length() {
        FrameFerry x = empty(8);
        DUE.is("1", x.feed(1, 0, 0, 0, 0), 1);
        DUE.is("17", x.feed(16, 0, 0, 0, 0), 17);
        DUE.is("24", x.feed(7, 0, 0, 0, 0), 24);
        x.start(false, 8);
        DUE.same("as FILE tells", Rig.toSender(DUE, x, Frames.hex(Frames.RINIT, 0)), Frames.name(8, 24, false));
    }

    private static void many() {
        int[] wrong = {-1, 17, 256, Integer.MIN_VALUE, Integer.MAX_VALUE};
        for (int many : wrong) {
            FrameFerry x = filled(5);
            DUE.argument("feed(" + many + ")", x, () -> x.feed(many, -1, -1, -1, -1));
            DUE.is("as before", x.feed(0, 0, 0, 0, 0), 5);
            DUE.same("as before", sentOf(x, 2), Frames.times(5, 65));
        }
        FrameFerry begun = filled(5);
        begun.start(false, 2);
        DUE.argument("in STATE 0 too", begun, () -> begun.feed(17, 0, 0, 0, 0));
        FrameFerry none = new FrameFerry();
        DUE.argument("without a file too", none, () -> none.feed(-1, 0, 0, 0, 0));
    }

    private static void noFile() {
        FrameFerry x = new FrameFerry();
        DUE.state("none yet", x, () -> x.feed(1, 0, 0, 0, 0));
        DUE.state("nor for no bytes", x, () -> x.feed(0, 0, 0, 0, 0));
        x.open(3);
        x.clear();
        DUE.state("none any more", x, () -> x.feed(1, 0, 0, 0, 0));
    }

    private static void moreThan300() {
        DUE.is("16 more up to 300", filled(284).feed(16, 0, 0, 0, 0), 300);
        DUE.is("the 300th", filled(299).feed(1, 0, 0, 0, 0), 300);
        FrameFerry x = filled(285);
        DUE.state("16 more up to 301", x, () -> x.feed(16, 0, 0, 0, 0));
        DUE.is("none of them was taken", x.feed(15, 0, 0, 0, 0), 300);
        DUE.state("the 301st", x, () -> x.feed(1, 0, 0, 0, 0));
        x.open(3);
        DUE.is("each file for itself", x.feed(16, 0, 0, 0, 0), 16);
        FrameFerry full = empty(7);
        Rig.feed(full, Frames.rising(5, 300));
        full.start(false, 64);
        Rig.rounds(full, 3);
        full.receiver();
        DUE.is("all 300 come", Arrays.equals(Look.got(full, 7), Frames.rising(5, 300)), true);
    }

    private static void notDone() {
        for (int state = 0; state < 5; state++) {
            FrameFerry x = Rig.inState(state);
            DUE.state("feed in STATE " + state, x, () -> x.feed(1, 0, 0, 0, 0));
            DUE.state("feed of none in STATE " + state, x, () -> x.feed(0, 0, 0, 0, 0));
        }
        DUE.is("feed in STATE 5", Rig.inState(5).feed(1, 0, 0, 0, 0), 101);
    }
}
