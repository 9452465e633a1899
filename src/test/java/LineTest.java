/** The LINE and promises 10 to 12: flip, lose, pipe. */
public final class LineTest {
    private static final Due DUE = new Due();

    public static void main(String[] args) {
        pipeShowsBytes();
        flipTurnsOneBit();
        flipRefuses();
        loseTakesFromTheMiddle();
        loseRefuses();
        pipesHoldAtMost3000();
        sidesAreApart();
        DUE.end();
    }

    private static void pipeShowsBytes() {
        FrameFerry x = Rig.started(false, 8);
        DUE.is("first", x.pipe(true, 0), 42);
        DUE.is("last", x.pipe(true, 19), 10);
        int[] none = {20, -1, 2999, 3000, Integer.MIN_VALUE, Integer.MAX_VALUE};
        for (int k : none) {
            DUE.is("pipe(true, " + k + ")", x.pipe(true, k), FrameFerry.NONE);
            DUE.is("pipe(false, " + k + ")", x.pipe(false, k), FrameFerry.NONE);
        }
        Rig.put(x, true, 255, 128, 0);
        DUE.same("bytes are 0 .. 255", Look.pipe(x, true), new int[] {255, 128, 0});
    }

    private static void flipTurnsOneBit() {
        FrameFerry x = Rig.started(false, 8);
        for (int bit = 0; bit < 8; bit++) {
            DUE.is("flip", x.flip(true, 19, bit), true);
            DUE.is("turned", x.pipe(true, 19), 10 ^ 1 << bit);
            DUE.is("flip back", x.flip(true, 19, bit), true);
            DUE.is("turned back", x.pipe(true, 19), 10);
        }
        int[] none = {20, -1, 3000, Integer.MIN_VALUE, Integer.MAX_VALUE};
        String before = Look.all(x);
        for (int at : none) {
            DUE.is("flip at " + at, x.flip(true, at, 0), false);
        }
        DUE.is("flip in an empty pipe", x.flip(false, 0, 0), false);
        DUE.is("nothing is changed", before.equals(Look.all(x)), true);
    }

    private static void flipRefuses() {
        FrameFerry x = Rig.started(false, 8);
        int[] wrong = {-1, 8, 32, Integer.MIN_VALUE, Integer.MAX_VALUE};
        for (int bit : wrong) {
            DUE.argument("flip of bit " + bit, x, () -> x.flip(true, 0, bit));
            DUE.argument("flip of bit " + bit + " nowhere", x, () -> x.flip(false, -1, bit));
        }
    }

    private static void loseTakesFromTheMiddle() {
        FrameFerry x = Rig.started(false, 8);
        Rig.put(x, true, 1, 2, 3, 4, 5, 6, 7, 8);
        DUE.is("lose", x.lose(true, 2, 3), 3);
        DUE.same("what stays", Look.pipe(x, true), new int[] {1, 2, 6, 7, 8});
        DUE.is("lose none", x.lose(true, 0, 0), 0);
        DUE.is("lose from the end on", x.lose(true, 5, 1), 0);
        DUE.is("lose far behind", x.lose(true, Integer.MAX_VALUE, Integer.MAX_VALUE), 0);
        DUE.is("lose more than there are", x.lose(true, 3, Integer.MAX_VALUE), 2);
        DUE.same("what stays", Look.pipe(x, true), new int[] {1, 2, 6});
        DUE.is("lose all", x.lose(true, 0, 4), 3);
        DUE.is("empty", x.count(6), 0);
        DUE.is("lose of an empty one", x.lose(true, 0, 1), 0);
    }

    private static void loseRefuses() {
        FrameFerry x = Rig.started(false, 8);
        DUE.argument("lose at -1", x, () -> x.lose(true, -1, 1));
        DUE.argument("lose of -1", x, () -> x.lose(true, 0, -1));
        DUE.argument("lose at the least int", x, () -> x.lose(false, Integer.MIN_VALUE, 0));
        DUE.argument("lose of the least int", x, () -> x.lose(false, 9999, Integer.MIN_VALUE));
    }

    private static void pipesHoldAtMost3000() {
        FrameFerry x = Rig.started(false, 8);
        for (int i = 1; i < 150; i++) {
            DUE.is("late of the sender", x.late(true), 20);
            DUE.is("late of the receiver", x.late(false), 20);
        }
        x.lose(true, 0, 5);
        DUE.is("DOWN before", x.count(6), 2995);
        DUE.is("all are counted as sent", x.late(true), 20);
        DUE.is("DOWN is full", x.count(6), 3000);
        DUE.is("the first of them fits", x.pipe(true, 2995), 42);
        DUE.is("the fifth of them fits", x.pipe(true, 2999), '0');
        DUE.is("lost in whole, and counted", x.late(true), 20);
        DUE.is("DOWN is full", x.count(6), 3000);
        DUE.is("lose in the middle of a full one", x.lose(true, 1500, 20), 20);
        DUE.is("DOWN behind it", x.count(6), 2980);
        DUE.is("the last one has come nearer", x.pipe(true, 2979), '0');
        x.late(true);
        x.late(false);
        DUE.is("UP is full", x.count(7), 3000);
        DUE.is("late into a full UP", x.late(false), 20);
        DUE.is("receiver into a full UP", x.receiver(), 20 * x.count(8) + 20 * x.count(9));
        DUE.is("UP is full", x.count(7), 3000);
        DUE.is("DOWN is read", x.count(6), 0);
        DUE.is("at the last place", x.pipe(false, 2999), 10);
    }

    private static void sidesAreApart() {
        FrameFerry x = Rig.started(false, 8);
        x.late(false);
        x.flip(false, 0, 0);
        DUE.is("UP is turned", x.pipe(false, 0), 43);
        DUE.is("DOWN is not", x.pipe(true, 0), 42);
        x.lose(true, 0, 1);
        DUE.is("DOWN has lost one", x.count(6), 19);
        DUE.is("UP has not", x.count(7), 20);
    }
}
