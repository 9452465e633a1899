public final class TermThrowsTest {
    private static final Due DUE = new Due("IllegalArgument is thrown");

    public static void main(String[] args) {
        DUE.test("IllegalArgument is thrown where a number is none of those told here", TermThrowsTest::numbers);
        DUE.test("What throws changes nothing", TermThrowsTest::changesNothing);
        DUE.end();
    }

    private static void numbers() {
        int[] far = {Integer.MIN_VALUE, -1000, -1, 1000, Integer.MAX_VALUE};
        FrameFerry x = Rig.holding(DUE, 3, 9, 1, 2);
        FrameFerry y = Rig.withFile(3, 1, 2);
        for (int number : far) {
            DUE.argument("open(" + number + ")", y, () -> y.open(number));
            DUE.argument("feed(" + number + ", ..)", y, () -> y.feed(number, 0, 0, 0, 0));
            DUE.argument("start(.., " + number + ")", x, () -> x.start(true, number));
            DUE.argument("flip(.., " + number + ")", x, () -> x.flip(true, 0, number));
            DUE.argument("got(" + number + ", ..)", x, () -> x.got(number, 0));
            DUE.argument("count(" + number + ")", x, () -> x.count(number));
            if (number < 0) {
                DUE.argument("lose(.., " + number + ", ..)", x, () -> x.lose(true, number, 1));
                DUE.argument("lose(.., .., " + number + ")", x, () -> x.lose(true, 0, number));
            }
        }
        for (int number : far) {
            DUE.is("feed takes any four", y.feed(1, number, number, number, number) > 2, true);
            DUE.is("flip at any int", x.flip(false, number, 0), false);
            DUE.is("pipe at any int", x.pipe(false, number), FrameFerry.NONE);
            DUE.is("got at any int", x.got(3, number), FrameFerry.NONE);
        }
        DUE.is("lose from any place above 0 on", x.lose(true, Integer.MAX_VALUE, Integer.MAX_VALUE), 0);
    }

    private static void swallow(Due.Call call) {
        try {
            call.run();
            DUE.tell("a call was not refused");
        } catch (IllegalArgumentException | IllegalStateException e) {
            return;
        }
    }

    /** Calls that are all refused while the sender is DONE. */
    private static void refusedWhenDone(FrameFerry x) {
        swallow(() -> x.open(-1));
        swallow(() -> x.open(26));
        swallow(() -> x.open(8));
        swallow(() -> x.feed(-1, -1, -1, -1, -1));
        swallow(() -> x.feed(17, -1, -1, -1, -1));
        refusedAlways(x);
    }

    /** Calls that are all refused while the sender is not DONE. */
    private static void refusedWhenNotDone(FrameFerry x) {
        swallow(() -> x.open(9));
        swallow(() -> x.open(8));
        swallow(() -> x.feed(1, -1, -1, -1, -1));
        swallow(() -> x.feed(0, -1, -1, -1, -1));
        swallow(x::clear);
        refusedAlways(x);
    }

    private static void refusedAlways(FrameFerry x) {
        swallow(() -> x.start(true, 0));
        swallow(() -> x.start(true, 65));
        swallow(() -> x.flip(true, 0, 8));
        swallow(() -> x.flip(true, 0, -1));
        swallow(() -> x.lose(true, -1, 5));
        swallow(() -> x.lose(false, 0, -1));
        swallow(() -> x.got(26, 0));
        swallow(() -> x.count(12));
    }

    /** The same run with refused calls between all others and without them: nothing tells them apart. */
    private static void changesNothing() {
        FrameFerry with = Rig.withFile(8, Frames.rising(0, 60));
        FrameFerry without = Rig.withFile(8, Frames.rising(0, 60));
        refusedWhenDone(with);
        with.start(false, 8);
        without.start(false, 8);
        for (int i = 0; i < 20; i++) {
            refusedWhenNotDone(with);
            if (i % 2 == 0) {
                DUE.is("receiver", with.receiver(), without.receiver());
            } else {
                DUE.is("sender", with.sender(), without.sender());
            }
            DUE.is("all that can be seen", Look.all(with).equals(Look.all(without)), true);
            if (with.count(0) == 5) {
                break;
            }
        }
        DUE.is("STATE", with.count(0), 5);
        refusedWhenDone(with);
        DUE.is("all that can be seen", Look.all(with).equals(Look.all(without)), true);
        DUE.same("what was sent", Look.got(with, 8), Frames.rising(0, 60));
        DUE.is("the files", with.clear(), 1);
        FrameFerry four = Rig.withFile(1);
        four.open(2);
        four.open(3);
        four.open(4);
        swallow(() -> four.open(5));
        DUE.is("the file opened last is the same", four.feed(1, 0, 0, 0, 0), 1);
        DUE.is("the files", four.clear(), 4);
    }
}
