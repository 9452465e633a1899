import java.util.function.Consumer;

public final class TermThrowsTest {
    private static final Due DUE = new Due("IllegalArgument is thrown");

    public static void main(String[] args) {
        DUE.test("IllegalArgument is thrown where a number is none of those told here", TermThrowsTest::numbers);
        DUE.test("What throws changes nothing", TermThrowsTest::changesNothing);
        DUE.end();
    }

    private static void numbers() {
        int[] far = {Integer.MIN_VALUE, -1000, -1, 1000, Integer.MAX_VALUE};
        for (int number : far) {
            refused("open", number, x -> x.open(number));
            refused("feed", number, x -> x.feed(number, 0, 0, 0, 0));
            refused("start", number, x -> x.start(true, number));
            refused("flip", number, x -> x.flip(true, 0, number));
            refused("got", number, x -> x.got(number, 0));
            refused("count", number, x -> x.count(number));
            if (number < 0) {
                refused("lose at", number, x -> x.lose(true, number, 1));
                refused("lose many", number, x -> x.lose(true, 0, number));
            }
            allowed(number);
        }
        FrameFerry x = Rig.started(true, 8);
        DUE.is("lose from any place above 0 on", x.lose(true, Integer.MAX_VALUE, Integer.MAX_VALUE), 0);
    }

    private static void refused(String what, int number, Consumer<FrameFerry> call) {
        FrameFerry done = Rig.withFile(3, 1, 2);
        DUE.argument(what + " with " + number, done, () -> call.accept(done));
        FrameFerry begun = Rig.holding(DUE, 3, 9, 1, 2);
        DUE.argument(what + " with " + number + ", not DONE", begun, () -> call.accept(begun));
    }

    private static void allowed(int number) {
        FrameFerry x = Rig.holding(DUE, 3, 9, 1, 2);
        DUE.is("flip at any int", x.flip(false, number, 0), false);
        DUE.is("pipe at any int", x.pipe(false, number), FrameFerry.NONE);
        DUE.is("got at any int", x.got(3, number), FrameFerry.NONE);
        DUE.is("feed takes any four", Rig.withFile(3).feed(1, number, number, number, number), 1);
    }

    private static void swallow(Due.Call call) {
        try {
            call.run();
            DUE.tell("a call was not refused");
        } catch (IllegalArgumentException | IllegalStateException e) {
            return;
        }
    }

    /** Calls that are all refused while the sender is DONE. */
    private static void refusedWhenDone(FrameFerry x) {
        swallow(() -> x.open(-1));
        swallow(() -> x.open(26));
        swallow(() -> x.open(8));
        swallow(() -> x.feed(-1, -1, -1, -1, -1));
        swallow(() -> x.feed(17, -1, -1, -1, -1));
        refusedAlways(x);
    }

    /** Calls that are all refused while the sender is not DONE. */
    private static void refusedWhenNotDone(FrameFerry x) {
        swallow(() -> x.open(9));
        swallow(() -> x.open(8));
        swallow(() -> x.feed(1, -1, -1, -1, -1));
        swallow(() -> x.feed(0, -1, -1, -1, -1));
        swallow(x::clear);
        refusedAlways(x);
    }

    private static void refusedAlways(FrameFerry x) {
        swallow(() -> x.start(true, 0));
        swallow(() -> x.start(true, 65));
        swallow(() -> x.flip(true, 0, 8));
        swallow(() -> x.flip(true, 0, -1));
        swallow(() -> x.lose(true, -1, 5));
        swallow(() -> x.lose(false, 0, -1));
        swallow(() -> x.got(26, 0));
        swallow(() -> x.count(12));
    }

    /** The same run with refused calls behind some others and without them: nothing tells them apart. */
    private static void changesNothing() {
        for (int calls = 0; calls <= 14; calls++) {
            FrameFerry with = begun(calls);
            FrameFerry without = begun(calls);
            if (with.count(0) == 5) {
                refusedWhenDone(with);
            } else {
                refusedWhenNotDone(with);
            }
            DUE.is("all that can be seen", Look.all(with).equals(Look.all(without)), true);
            DUE.is("what the sender sends", with.sender(), without.sender());
            DUE.is("what the receiver sends", with.receiver(), without.receiver());
            DUE.is("all that can be seen", Look.all(with).equals(Look.all(without)), true);
        }
        FrameFerry x = begun(14);
        DUE.is("STATE", x.count(0), 5);
        refusedWhenDone(x);
        DUE.is("the file fed last is as it was", x.feed(0, 0, 0, 0, 0), 20);
        DUE.is("the files", x.clear(), 1);
        FrameFerry four = Rig.withFile(1);
        four.open(2);
        four.open(3);
        four.open(4);
        swallow(() -> four.open(5));
        DUE.is("the file opened last is the same", four.feed(1, 0, 0, 0, 0), 1);
        DUE.is("the files", four.clear(), 4);
    }

    /** One file, letter 8, on its way: so many calls of the two sides in turn. */
    private static FrameFerry begun(int calls) {
        FrameFerry x = Rig.withFile(8, Frames.rising(0, 20));
        x.start(false, 2);
        for (int i = 0; i < calls; i++) {
            if (i % 2 == 0) {
                x.receiver();
            } else {
                x.sender();
            }
        }
        return x;
    }
}
