public final class Promise01NewObjectTest {
    private static final Due DUE = new Due("Promise 1: A new object");

    public static void main(String[] args) {
        DUE.test("No files at all", Promise01NewObjectTest::noFiles);
        DUE.test("empty PIPES", Promise01NewObjectTest::emptyPipes);
        DUE.test("the SENDER is DONE", Promise01NewObjectTest::senderIsDone);
        DUE.test("the RECEIVER, too", Promise01NewObjectTest::receiverIsDone);
        DUE.unseen("SIZE is 32", "a PACKET is sent only behind a start, and start sets SIZE");
        DUE.end();
    }

    private static void noFiles() {
        FrameFerry x = new FrameFerry();
        DUE.is("files", x.count(1), 0);
        DUE.is("place", x.count(2), 0);
        DUE.is("open", x.count(4), FrameFerry.NONE);
        DUE.is("POSITION", x.count(5), FrameFerry.NONE);
        for (int letter = 0; letter < 26; letter++) {
            DUE.is("got(" + letter + ", 0)", x.got(letter, 0), FrameFerry.NONE);
        }
        DUE.state("feed", x, () -> x.feed(0, 0, 0, 0, 0));
        DUE.is("clear", x.clear(), 0);
        DUE.is("open", x.open(0), 1);
    }

    private static void emptyPipes() {
        FrameFerry x = new FrameFerry();
        DUE.is("DOWN", x.count(6), 0);
        DUE.is("UP", x.count(7), 0);
        DUE.is("the first of DOWN", x.pipe(true, 0), FrameFerry.NONE);
        DUE.is("the first of UP", x.pipe(false, 0), FrameFerry.NONE);
        DUE.is("flip", x.flip(true, 0, 0), false);
        DUE.is("lose", x.lose(false, 0, 1), 0);
    }

    private static void senderIsDone() {
        FrameFerry x = new FrameFerry();
        DUE.is("STATE", x.count(0), 5);
        DUE.is("sender", x.sender(), 0);
        DUE.is("late", x.late(true), 0);
        DUE.is("DOWN", x.count(6), 0);
    }

    private static void receiverIsDone() {
        FrameFerry x = new FrameFerry();
        DUE.is("DONE", x.count(3), 1);
        DUE.is("receiver", x.receiver(), 0);
        DUE.is("late", x.late(false), 0);
        DUE.is("UP", x.count(7), 0);
        for (int what = 8; what < 12; what++) {
            DUE.is("count(" + what + ")", x.count(what), 0);
        }
    }
}
