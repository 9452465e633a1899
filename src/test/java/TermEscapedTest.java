import java.util.Arrays;

public final class TermEscapedTest {
    private static final Due DUE = new Due("ESCAPED");
    private static final int[] ESCAPED = {16, 17, 19, 24, 144, 145, 147};
    private static final int[] NAK = Frames.hex(Frames.NAK, 0);

    public static void main(String[] args) {
        DUE.test("ESCAPED: bytes 16, 17, 19, 24, 144, 145, 147 are written as 24 and the byte with bit 6 turned round",
            TermEscapedTest::written);
        DUE.test("others as they are", TermEscapedTest::writtenAsTheyAre);
        DUE.test("Read so: 24 and a byte with bits 6, 5 being 1, 0 is that byte with bit 6 turned round", TermEscapedTest::read);
        DUE.test("24 and 108 is 127, 24 and 109 is 255", TermEscapedTest::read108And109);
        DUE.test("24 and anything else is BAD", TermEscapedTest::bad);
        DUE.test("but in DATA 24 and 104 .. 107", TermEscapedTest::ends);
        DUE.end();
    }

    private static boolean isEscaped(int value) {
        return Arrays.binarySearch(ESCAPED, value) >= 0;
    }

    /** The first two bytes of the packet that the class sends of a file of one byte. */
    private static int[] beginOf(int value) {
        FrameFerry x = Rig.withFile(3, value);
        x.start(false, 8);
        Rig.toSender(DUE, x, Frames.hex(Frames.RINIT, 0));
        int[] sent = Rig.toSender(DUE, x, Frames.hex(Frames.RPOS, 0));
        int from = Frames.bytes(Frames.DATA, 0, false).length;
        return Arrays.copyOfRange(sent, from, from + 2);
    }

    private static void written() {
        for (int value : ESCAPED) {
            DUE.same("byte " + value, beginOf(value), 24, value ^ 64);
            FrameFerry x = Rig.withFile(3, Frames.times(200, 65));
            x.start(false, 8);
            Rig.toSender(DUE, x, Frames.hex(Frames.RINIT, 0));
            int[] sent = Rig.toSender(DUE, x, Frames.hex(Frames.RPOS, value));
            DUE.same("place " + value + " in a HEADER", Arrays.copyOf(sent, 6), 42, 24, 65, 10, 24, value ^ 64);
        }
    }

    private static void writtenAsTheyAre() {
        for (int value = 0; value < 256; value++) {
            if (!isEscaped(value)) {
                DUE.same("byte " + value, beginOf(value), value, 24);
            }
        }
    }

    private static int[] gotOf(int... written) {
        FrameFerry x = Rig.opened(DUE, 9, 100);
        Rig.toReceiver(DUE, x, Frames.join(Frames.bytes(Frames.DATA, 0, false), written));
        return Look.got(x, 9);
    }

    private static int[] ended(int meant, int... written) {
        return Frames.join(written, new int[] {24, Frames.E},
            Frames.escaped(Frames.check(new int[] {meant, Frames.E}, false)));
    }

    private static void read() {
        for (int value = 0; value < 256; value++) {
            if ((value & 64) != 0 && (value & 32) == 0) {
                DUE.same("24 and " + value, gotOf(ended(value ^ 64, 24, value)), value ^ 64);
            }
        }
        int[] five = {Frames.RQINIT, 0, 31, 128, 24};
        FrameFerry x = Rig.waiting(false);
        int[] written = {42, 24, 65, 24, 64, 24, 64, 24, 95, 24, 192, 24, 88};
        DUE.same("in a HEADER", Rig.toReceiver(DUE, x, Frames.join(written, Frames.escaped(Frames.check(five, false)))),
            Frames.hex(Frames.RINIT, 0));
        for (int value = 0; value < 256; value++) {
            if (value != 24) {
                DUE.same(value + " as it is", gotOf(ended(value, value)), value);
            }
        }
    }

    private static void read108And109() {
        DUE.same("24 and 108", gotOf(ended(127, 24, 108)), 127);
        DUE.same("24 and 109", gotOf(ended(255, 24, 109)), 255);
        int[] check = Frames.escaped(Frames.check(Frames.headerBytes(Frames.RQINIT, 0xff7f), false));
        DUE.same("in a HEADER", Rig.toReceiver(DUE, Rig.waiting(false),
            Frames.join(new int[] {42, 24, 65, 0, 24, 108, 24, 109, 0, 0}, check)), Frames.hex(Frames.RINIT, 0));
    }

    private static void bad() {
        for (int value = 0; value < 256; value++) {
            if ((value & 0x60) == 0x40 || value == 108 || value == 109) {
                continue;
            }
            FrameFerry x = Rig.waiting(false);
            DUE.same("24 and " + value + " in a HEADER", Rig.toReceiver(DUE, x, 42, 24, 65, 0, 24, value), NAK);
            DUE.is("BAD HEADERS", x.count(9), 1);
            if (value >= 104 && value <= 107) {
                continue;
            }
            FrameFerry y = Rig.opened(DUE, 9, 100);
            DUE.same("24 and " + value + " in DATA", Rig.toReceiver(DUE, y,
                Frames.join(Frames.bytes(Frames.DATA, 0, false), new int[] {7, 24, value})), Frames.hex(Frames.RPOS, 0));
            DUE.is("BAD PACKETS", y.count(11), 1);
        }
        FrameFerry z = Rig.opened(DUE, 9, 100);
        DUE.same("24 and 24 in DATA", Rig.toReceiver(DUE, z,
            Frames.join(Frames.bytes(Frames.DATA, 0, false), new int[] {24, 24})), Frames.hex(Frames.RPOS, 0));
        DUE.same("24 and 104 in a PACKET's CHECK", Rig.toReceiver(DUE, z,
            Frames.join(Frames.bytes(Frames.DATA, 0, false), new int[] {1, 24, 104, 24, 104})), Frames.hex(Frames.RPOS, 0));
    }

    private static void ends() {
        for (int end = 104; end <= 107; end++) {
            FrameFerry x = Rig.opened(DUE, 9, 100);
            Rig.toReceiver(DUE, x, Frames.data(0, end, 5));
            DUE.is("24 and " + end + " is not BAD", x.count(11), 0);
            DUE.same("but an END", Look.got(x, 9), 5);
            FrameFerry y = Rig.waiting(false);
            Rig.toReceiver(DUE, y, Frames.join(Frames.bytes(Frames.FILE, 0, false), Frames.packet(end, false, 'c', 0, 9)));
            DUE.is("24 and " + end + " behind FILE", y.count(4), 2);
        }
    }
}
