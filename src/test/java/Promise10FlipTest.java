public final class Promise10FlipTest {
    private static final Due DUE = new Due("Promise 10: flip");

    public static void main(String[] args) {
        DUE.test("A bit of a byte in a PIPE is turned round", Promise10FlipTest::turnsOneBit);
        DUE.test("whether there is one", Promise10FlipTest::whetherThereIsOne);
        DUE.test("at may be any int", Promise10FlipTest::anyInt);
        DUE.test("IllegalArgument: bit not 0 .. 7", Promise10FlipTest::wrongBits);
        DUE.end();
    }

    private static void turnsOneBit() {
        FrameFerry x = Rig.started(false, 8);
        x.late(false);
        int[] down = Look.pipe(x, true);
        int[] up = Look.pipe(x, false);
        for (int bit = 0; bit < 8; bit++) {
            x.flip(true, 19, bit);
            down[19] ^= 1 << bit;
            DUE.same("DOWN, bit " + bit, Look.pipe(x, true), down);
            x.flip(false, 0, bit);
            up[0] ^= 1 << bit;
            DUE.same("UP, bit " + bit, Look.pipe(x, false), up);
        }
        x.flip(true, 19, 3);
        x.flip(true, 19, 3);
        DUE.same("twice is as before", Look.pipe(x, true), down);
    }

    private static void whetherThereIsOne() {
        FrameFerry x = Rig.started(false, 8);
        DUE.is("the first", x.flip(true, 0, 0), true);
        DUE.is("the last", x.flip(true, 19, 7), true);
        DUE.is("behind the last", x.flip(true, 20, 0), false);
        DUE.is("before the first", x.flip(true, -1, 0), false);
        DUE.is("of an empty pipe", x.flip(false, 0, 0), false);
        Rig.fill(x, true);
        DUE.is("the last of a full pipe", x.flip(true, 2999, 0), true);
        DUE.is("behind it", x.flip(true, 3000, 0), false);
        x.lose(true, 0, 2999);
        DUE.is("one that is lost", x.flip(true, 1, 0), false);
    }

    private static void anyInt() {
        FrameFerry x = Rig.started(false, 8);
        String before = Look.all(x);
        int[] none = {-1, 20, 3000, 65536, Integer.MIN_VALUE, Integer.MAX_VALUE};
        for (int at : none) {
            DUE.is("at " + at, x.flip(true, at, 0), false);
            DUE.is("at " + at + " of UP", x.flip(false, at, 7), false);
        }
        DUE.is("nothing is changed", before.equals(Look.all(x)), true);
    }

    private static void wrongBits() {
        int[] wrong = {-1, 8, 32, Integer.MIN_VALUE, Integer.MAX_VALUE};
        for (int bit : wrong) {
            FrameFerry x = Rig.started(false, 8);
            DUE.argument("bit " + bit, x, () -> x.flip(true, 0, bit));
            DUE.argument("bit " + bit + " of no byte", x, () -> x.flip(false, -1, bit));
        }
    }
}
