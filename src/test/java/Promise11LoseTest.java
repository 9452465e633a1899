public final class Promise11LoseTest {
    private static final Due DUE = new Due("Promise 11: lose");

    public static void main(String[] args) {
        DUE.test("Bytes from one on, many of them, are lost from a PIPE", Promise11LoseTest::lost);
        DUE.test("how many there were", Promise11LoseTest::howMany);
        DUE.test("IllegalArgument: at or many is below 0", Promise11LoseTest::belowZero);
        DUE.end();
    }

    private static void lost() {
        FrameFerry x = Rig.started(false, 8);
        Rig.put(x, false, 9, 8, 7);
        Rig.put(x, true, 1, 2, 3, 4, 5, 6, 7, 8);
        x.lose(true, 2, 3);
        DUE.same("from the middle", Look.pipe(x, true), 1, 2, 6, 7, 8);
        x.lose(true, 0, 1);
        DUE.same("from the beginning", Look.pipe(x, true), 2, 6, 7, 8);
        x.lose(true, 3, 1);
        DUE.same("from the end", Look.pipe(x, true), 2, 6, 7);
        DUE.same("UP is as it was", Look.pipe(x, false), 9, 8, 7);
        x.lose(false, 1, 1);
        DUE.same("UP", Look.pipe(x, false), 9, 7);
        x.late(true);
        DUE.same("what comes is behind the rest", Look.pipe(x, true),
            Frames.join(new int[] {2, 6, 7}, Frames.hex(Frames.RQINIT, 0)));
    }

    private static void howMany() {
        FrameFerry x = Rig.started(false, 8);
        DUE.is("none of them", x.lose(true, 0, 0), 0);
        DUE.is("one", x.lose(true, 0, 1), 1);
        DUE.is("from the end on", x.lose(true, 19, 1), 0);
        DUE.is("far behind", x.lose(true, Integer.MAX_VALUE, Integer.MAX_VALUE), 0);
        DUE.is("from the last one on, far more", x.lose(true, 18, Integer.MAX_VALUE), 1);
        DUE.is("one more than there are", x.lose(true, 10, 9), 8);
        DUE.is("all of them", x.lose(true, 0, 10), 10);
        DUE.is("DOWN", x.count(6), 0);
        DUE.is("of an empty pipe", x.lose(true, 0, 1), 0);
        Rig.fill(x, true);
        DUE.is("of a full pipe", x.lose(true, 1500, 20), 20);
        DUE.is("DOWN", x.count(6), 2980);
        DUE.is("all of it", x.lose(true, 0, 3000), 2980);
    }

    private static void belowZero() {
        refused(-1, 1);
        refused(-1, 0);
        refused(0, -1);
        refused(9999, -1);
        refused(-1, -1);
        refused(Integer.MIN_VALUE, 1);
        refused(1, Integer.MIN_VALUE);
        refused(Integer.MIN_VALUE, Integer.MIN_VALUE);
    }

    private static void refused(int at, int many) {
        FrameFerry x = Rig.started(false, 8);
        x.late(false);
        DUE.argument("DOWN, " + at + ", " + many, x, () -> x.lose(true, at, many));
        DUE.argument("UP, " + at + ", " + many, x, () -> x.lose(false, at, many));
    }
}
