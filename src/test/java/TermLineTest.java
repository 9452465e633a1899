public final class TermLineTest {
    private static final Due DUE = new Due("THE LINE");

    public static void main(String[] args) {
        DUE.test("THE LINE are two PIPES of bytes: DOWN from the SENDER to the RECEIVER, UP back", TermLineTest::twoPipes);
        DUE.test("Each has at most 3000 bytes", TermLineTest::atMost3000);
        DUE.test("what would be more is lost", TermLineTest::moreIsLost);
        DUE.end();
    }

    private static void twoPipes() {
        FrameFerry x = Rig.withFile(3, 9);
        x.start(false, 8);
        DUE.is("the sender's bytes in DOWN", x.count(6), 20);
        DUE.is("none in UP", x.count(7), 0);
        x.receiver();
        DUE.is("the receiver takes them out of DOWN", x.count(6), 0);
        DUE.is("its own are in UP", x.count(7), 20);
        x.sender();
        DUE.is("the sender takes them out of UP", x.count(7), 0);
        DUE.same("and answers in DOWN", Look.pipe(x, true), Frames.name(3, 1, false));
        x.late(false);
        x.flip(false, 0, 0);
        x.lose(false, 19, 1);
        DUE.same("DOWN is apart from UP", Look.pipe(x, true), Frames.name(3, 1, false));
        x.flip(true, 0, 7);
        DUE.is("UP is apart from DOWN", x.pipe(false, 0), 43);
        DUE.is("UP is apart from DOWN", x.count(7), 19);
    }

    private static void atMost3000() {
        FrameFerry x = Rig.started(false, 8);
        for (int side = 0; side < 2; side++) {
            boolean down = side == 0;
            int what = down ? 6 : 7;
            Rig.fill(x, down);
            DUE.is("full", x.count(what), 3000);
            x.late(down);
            DUE.is("not more", x.count(what), 3000);
            DUE.is("the last", x.pipe(down, 2999), 10);
            DUE.is("behind the last", x.pipe(down, 3000), FrameFerry.NONE);
            x.lose(down, 0, 20);
            x.late(down);
            DUE.is("full again", x.count(what), 3000);
        }
    }

    private static void moreIsLost() {
        FrameFerry x = Rig.started(false, 8);
        for (int side = 0; side < 2; side++) {
            boolean down = side == 0;
            Rig.fill(x, down);
            x.lose(down, 2995, 5);
            x.late(down);
            DUE.is("the first of five fits", x.pipe(down, 2995), 42);
            DUE.is("the fifth fits", x.pipe(down, 2999), '0');
            x.lose(down, 2980, 3000);
            DUE.is("the rest does not come later", x.count(down ? 6 : 7), 2980);
            x.late(down);
            DUE.is("the next one is whole", x.pipe(down, 2999), 10);
        }
        DUE.is("all that is left is whole", x.receiver(), 150 * 20);
    }
}
