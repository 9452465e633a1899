/** Promises 1 to 4: a new object, open, feed, clear. */
public final class FilesToSendTest {
    private static final Due DUE = new Due();

    public static void main(String[] args) {
        newObject();
        openCounts();
        openRefuses();
        argumentComesFirst();
        feedTakesHighestFirst();
        feedRefuses();
        feedFills();
        clearForgets();
        clearRefuses();
        DUE.end();
    }

    private static void newObject() {
        FrameFerry x = new FrameFerry();
        DUE.same("counts of a new object", Look.counts(x),
            new int[] {5, 0, 0, 1, -1, -1, 0, 0, 0, 0, 0, 0});
        DUE.is("NONE", FrameFerry.NONE, -1);
        for (int letter = 0; letter < 26; letter++) {
            DUE.is("got of a new object", x.got(letter, 0), FrameFerry.NONE);
        }
        DUE.is("pipe of a new object", x.pipe(true, 0), FrameFerry.NONE);
        DUE.is("pipe of a new object", x.pipe(false, 0), FrameFerry.NONE);
        DUE.is("sender of a new object", x.sender(), 0);
        DUE.is("receiver of a new object", x.receiver(), 0);
        DUE.is("late of a DONE sender", x.late(true), 0);
        DUE.is("late of a DONE receiver", x.late(false), 0);
        DUE.is("clear of a new object", x.clear(), 0);
    }

    private static void openCounts() {
        FrameFerry x = new FrameFerry();
        DUE.is("open(25)", x.open(25), 1);
        DUE.is("count(1) behind open", x.count(1), 1);
        DUE.is("open(0)", x.open(0), 2);
        DUE.is("open(13)", x.open(13), 3);
        DUE.is("open(1)", x.open(1), 4);
        DUE.is("count(1) behind four", x.count(1), 4);
    }

    private static void openRefuses() {
        FrameFerry x = new FrameFerry();
        int[] wrong = {-1, 26, Integer.MIN_VALUE, Integer.MAX_VALUE};
        for (int letter : wrong) {
            DUE.argument("open(" + letter + ")", x, () -> x.open(letter));
        }
        x.open(3);
        DUE.argument("open of a letter that is there", x, () -> x.open(3));
        x.open(4);
        x.open(5);
        x.open(6);
        DUE.state("open of a fifth", x, () -> x.open(7));
        x.clear();
        x.start(false, 8);
        DUE.state("open while the sender is not DONE", x, () -> x.open(7));
    }

    private static void argumentComesFirst() {
        FrameFerry x = new FrameFerry();
        x.open(0);
        x.open(1);
        x.open(2);
        x.open(3);
        DUE.argument("open(26) with four", x, () -> x.open(26));
        DUE.argument("open(2) with four", x, () -> x.open(2));
        x.start(true, 1);
        DUE.argument("open(2) in STATE 0", x, () -> x.open(2));
        DUE.argument("feed(17) in STATE 0", x, () -> x.feed(17, 0, 0, 0, 0));
        FrameFerry empty = new FrameFerry();
        DUE.argument("feed(-1) without a file", empty, () -> empty.feed(-1, 0, 0, 0, 0));
    }

    private static void feedTakesHighestFirst() {
        FrameFerry x = new FrameFerry();
        x.open(8);
        DUE.is("feed of none", x.feed(0, -1, -1, -1, -1), 0);
        DUE.is("feed of 16", x.feed(16, 0x01020304, 0x05060708, 0x090a0b0c, 0x0d0e0ff0), 16);
        DUE.is("feed of 5", x.feed(5, 0xfffefdfc, 0xfb777777, 0x77777777, 0x77777777), 21);
        DUE.is("feed of 9", x.feed(9, 0x20212223, 0x24252627, 0x28777777, 0x77777777), 30);
        DUE.is("feed of 13", x.feed(13, 0x30313233, 0x34353637, 0x38393a3b, 0x3c777777), 43);
        x.start(false, 64);
        x.receiver();
        x.sender();
        x.receiver();
        x.sender();
        x.receiver();
        int[] want = Frames.join(Frames.rising(1, 15), new int[] {0xf0}, new int[] {255, 254, 253, 252, 251},
            Frames.rising(0x20, 9), Frames.rising(0x30, 13));
        DUE.same("what was fed", Look.got(x, 8), want);
    }

    private static void feedRefuses() {
        FrameFerry x = new FrameFerry();
        DUE.state("feed without a file", x, () -> x.feed(0, 0, 0, 0, 0));
        x.open(2);
        int[] wrong = {-1, 17, Integer.MIN_VALUE, Integer.MAX_VALUE};
        for (int many : wrong) {
            DUE.argument("feed(" + many + ")", x, () -> x.feed(many, 0, 0, 0, 0));
        }
        x.start(false, 8);
        DUE.state("feed while the sender is not DONE", x, () -> x.feed(0, 0, 0, 0, 0));
    }

    private static void feedFills() {
        FrameFerry x = new FrameFerry();
        x.open(2);
        for (int i = 1; i <= 18; i++) {
            DUE.is("feed " + i, x.feed(16, i, i, i, i), 16 * i);
        }
        DUE.state("feed above 300", x, () -> x.feed(13, 0, 0, 0, 0));
        DUE.is("feed up to 300", x.feed(12, 0, 0, 0, 0), 300);
        DUE.is("feed of none at 300", x.feed(0, 0, 0, 0, 0), 300);
        DUE.state("feed of one at 300", x, () -> x.feed(1, 0, 0, 0, 0));
        x.open(3);
        DUE.is("feed goes to the file opened last", x.feed(1, 0, 0, 0, 0), 1);
    }

    private static void clearForgets() {
        FrameFerry x = Rig.withFile(4, 1, 2, 3);
        x.open(5);
        DUE.is("clear", x.clear(), 2);
        DUE.is("count(1) behind clear", x.count(1), 0);
        DUE.is("clear again", x.clear(), 0);
        DUE.state("feed behind clear", x, () -> x.feed(1, 0, 0, 0, 0));
        DUE.is("open behind clear", x.open(4), 1);
        DUE.is("an opened file is empty", x.feed(2, 0, 0, 0, 0), 2);
    }

    private static void clearRefuses() {
        FrameFerry x = Rig.withFile(4, 1, 2, 3);
        x.start(true, 8);
        DUE.state("clear in STATE 0", x, () -> x.clear());
        x.receiver();
        x.sender();
        DUE.state("clear in STATE 1", x, () -> x.clear());
    }
}
