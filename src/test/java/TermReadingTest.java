import java.util.Arrays;

public final class TermReadingTest {
    private static final Due DUE = new Due("READING");
    private static final int[] NAK = Frames.hex(Frames.NAK, 0);
    private static final int[] RINIT = Frames.hex(Frames.RINIT, 0);
    private static final int[] RPOS = Frames.hex(Frames.RPOS, 0);
    private static final int[] RQINIT = Frames.hex(Frames.RQINIT, 0);

    public static void main(String[] args) {
        DUE.test("READING goes byte by byte", TermReadingTest::byteByByte);
        DUE.test("Outside of all: bytes are passed over up to 42", TermReadingTest::passedOver);
        DUE.test("Behind 42: 42 again changes nothing", TermReadingTest::starsAgain);
        DUE.test("24 is a LEAD; all else: outside", TermReadingTest::behindStar);
        DUE.test("Behind a LEAD: 66, 65, 67 begin a HEADER, all else: outside", TermReadingTest::behindLead);
        DUE.test("In a HEADER a BAD byte", TermReadingTest::badByteInHeader);
        DUE.test("in HEX one that is no digit", TermReadingTest::noDigit);
        DUE.test("or a wrong CHECK at its end, is a BAD HEADER", TermReadingTest::wrongCheckOfHeader);
        DUE.test("and one is outside", TermReadingTest::outsideBehindBadHeader);
        DUE.test("Behind a HEADER that PACKETS follow (as told below) one is in DATA, with an empty PACKET",
            TermReadingTest::inData);
        DUE.test("with an empty PACKET: a BAD byte", TermReadingTest::badByteInPacket);
        DUE.test("the 65th byte of one", TermReadingTest::the65th);
        DUE.test("or a wrong CHECK is a BAD PACKET", TermReadingTest::wrongCheckOfPacket);
        DUE.test("behind a good one with E or W", TermReadingTest::behindEOrW);
        DUE.test("or any BAD one, one is outside", TermReadingTest::behindBad);
        DUE.test("else in the next one", TermReadingTest::theNextOne);
        theSenderReadsSo();
        DUE.end();
    }

    private static void heard(String what, int[] want, int[]... rows) {
        DUE.same(what, Rig.toReceiver(DUE, Rig.waiting(false), Frames.join(rows)), want);
    }

    private static void counted(String what, FrameFerry x, int... want) {
        DUE.same(what, Arrays.copyOfRange(Look.counts(x), 8, 12), want);
    }

    private static void byteByByte() {
        int[][] rows = {Frames.digits(0, 0), Frames.bytes(0, 0x18181818, false), Frames.bytes(0, 0x18181818, true)};
        for (int[] row : rows) {
            FrameFerry x = Rig.waiting(false);
            for (int i = 0; i < row.length - 1; i++) {
                DUE.same("a byte", Rig.toReceiver(DUE, x, row[i]));
            }
            DUE.same("the last byte", Rig.toReceiver(DUE, x, row[row.length - 1]), RINIT);
        }
        FrameFerry y = Rig.opened(DUE, 3, 300);
        int[] row = Frames.join(Frames.bytes(Frames.DATA, 0, true), Frames.packet(Frames.Q, true, 24, 16, 0, 145));
        for (int i = 0; i < row.length - 1; i++) {
            DUE.same("a byte", Rig.toReceiver(DUE, y, row[i]));
            DUE.is("nothing is put before it is whole", y.count(5), 0);
        }
        DUE.same("the last byte", Rig.toReceiver(DUE, y, row[row.length - 1]), Frames.hex(Frames.ACK, 4));
    }

    private static void passedOver() {
        for (int value = 0; value < 256; value++) {
            if (value != 42) {
                heard(value + " before", RINIT, new int[] {value, value}, RQINIT);
            }
        }
        heard("a form without its begin", RINIT, new int[] {24, 66, 48, 24, 65, 24, 67, 13, 10}, RQINIT);
        heard("behind one", RINIT, RQINIT, new int[] {24, 65, 66});
        heard("between two", Frames.join(RINIT, RINIT), RQINIT, new int[] {1, 2, 3}, RQINIT);
    }

    private static void starsAgain() {
        int[] rest = Arrays.copyOfRange(RQINIT, 2, 20);
        for (int stars = 1; stars < 9; stars++) {
            heard(stars + " of them before HEX", RINIT, Frames.times(stars, 42), rest);
            heard(stars + " of them before BYTES", RINIT, Frames.times(stars - 1, 42), Frames.bytes(0, 0, false));
        }
        heard("none", new int[0], rest);
    }

    private static void behindStar() {
        int[] rest = Arrays.copyOfRange(RQINIT, 2, 20);
        for (int value = 0; value < 256; value++) {
            if (value != 42 && value != 24) {
                heard(value + " behind 42", new int[0], new int[] {42, value}, rest);
                heard("it may begin again", RINIT, new int[] {42, value}, RQINIT);
            }
        }
        heard("24", RINIT, new int[] {42}, rest);
    }

    private static void behindLead() {
        int[] rest = Arrays.copyOfRange(RQINIT, 4, 20);
        for (int value = 0; value < 256; value++) {
            if (value < 65 || value > 67) {
                heard(value + " behind a LEAD", new int[0], new int[] {42, 24, value}, rest);
                heard("it may begin again", RINIT, new int[] {42, 24, value}, RQINIT);
            }
        }
        heard("42 there is no begin", new int[0], new int[] {42, 24, 42, 24, 66}, rest);
        heard("66", RINIT, new int[] {42, 24, 66}, rest);
        heard("65", RINIT, Frames.bytes(0, 0, false));
        heard("67", RINIT, Frames.bytes(0, 0, true));
    }

    private static void badByteInHeader() {
        for (int form = 65; form <= 67; form += 2) {
            int whole = form == 65 ? 7 : 9;
            for (int at = 0; at < whole; at++) {
                FrameFerry x = Rig.waiting(false);
                int[] row = Frames.join(new int[] {42, 24, form}, Frames.times(at, 0), new int[] {24, 32});
                DUE.same("24 and 32 at " + at, Rig.toReceiver(DUE, x, row), NAK);
                counted("BAD HEADERS", x, 0, 1, 0, 0);
            }
        }
    }

    private static void noDigit() {
        for (int value = 0; value < 256; value++) {
            if (Character.digit(value, 16) >= 0 && value < 128) {
                continue;
            }
            for (int at = 4; at < 18; at += 13) {
                int[] row = Arrays.copyOf(RQINIT, at + 1);
                row[at] = value;
                FrameFerry x = Rig.waiting(false);
                DUE.same(value + " at " + at, Rig.toReceiver(DUE, x, row), NAK);
                counted("BAD HEADERS", x, 0, 1, 0, 0);
            }
        }
    }

    private static void wrongCheckOfHeader() {
        for (int at = 4; at < 18; at++) {
            int[] row = Frames.digits(0, 0);
            row[at] ^= 1;
            FrameFerry x = Rig.waiting(false);
            DUE.same("all but its last digit", Rig.toReceiver(DUE, x, Arrays.copyOf(row, 17)));
            DUE.same("its last digit", Rig.toReceiver(DUE, x, row[17]), NAK);
            counted("BAD HEADERS", x, 0, 1, 0, 0);
        }
        for (int form = 0; form < 2; form++) {
            int[] good = Frames.bytes(0, 0x01020304, form == 1);
            for (int at = 3; at < good.length; at++) {
                for (int bit = 0; bit < 3; bit++) {
                    int[] row = good.clone();
                    row[at] ^= 128 >> bit;
                    FrameFerry x = Rig.waiting(false);
                    DUE.same("all but its last byte", Rig.toReceiver(DUE, x, Arrays.copyOf(row, row.length - 1)));
                    DUE.same("its last byte", Rig.toReceiver(DUE, x, row[row.length - 1]), NAK);
                    counted("BAD HEADERS", x, 0, 1, 0, 0);
                }
            }
        }
    }

    private static void outsideBehindBadHeader() {
        int[] cut = Arrays.copyOf(RQINIT, 9);
        heard("the byte that was no digit is gone", NAK, cut, new int[] {42, 24, 66}, Frames.times(14, 48));
        heard("the next star begins", Frames.join(NAK, RINIT), cut, RQINIT);
        heard("one NAK for all of it", NAK, new int[] {42, 24, 66}, Frames.times(30, 'x'));
        heard("behind 24 and 32", Frames.join(NAK, RINIT), new int[] {42, 24, 65, 24, 32}, RQINIT);
        int[] bad = RQINIT.clone();
        bad[17] ^= 1;
        heard("behind a wrong CHECK", Frames.join(NAK, RINIT), bad, RQINIT);
    }

    private static void inData() {
        int[] file = Frames.bytes(Frames.FILE, 0, false);
        heard("a star is a byte of it", NAK, file, Frames.packet(Frames.W, false, RQINIT));
        FrameFerry x = Rig.opened(DUE, 3, 300);
        DUE.same("a header is a part of it", Rig.toReceiver(DUE, x, Frames.data(0, Frames.W, Arrays.copyOf(RQINIT, 2))),
            Frames.hex(Frames.ACK, 2));
        DUE.same("empty at first", Rig.toReceiver(DUE, x, Frames.data(2, Frames.W)), Frames.hex(Frames.ACK, 2));
        DUE.same("empty at first, again", Rig.toReceiver(DUE, x, Frames.data(2, Frames.W, 9)), Frames.hex(Frames.ACK, 3));
        DUE.same("none behind others", Rig.toReceiver(DUE, x, Frames.join(Frames.bytes(Frames.RINIT, 0, false), RQINIT)), RINIT);
        counted("counts", x, 6, 0, 4, 0);
    }

    private static void badByteInPacket() {
        int[] data = Frames.bytes(Frames.DATA, 0, false);
        FrameFerry x = Rig.opened(DUE, 3, 300);
        DUE.same("24 and 0", Rig.toReceiver(DUE, x, Frames.join(data, new int[] {7, 24, 0})), RPOS);
        counted("a BAD byte", x, 2, 0, 1, 1);
        DUE.same("in the CHECK", Rig.toReceiver(DUE, x, Frames.join(data, new int[] {24, Frames.E, 24, 0})), RPOS);
        counted("a BAD byte in the CHECK", x, 3, 0, 1, 2);
        FrameFerry y = Rig.opened(DUE, 3, 300);
        DUE.same("behind 64", Rig.toReceiver(DUE, y, Frames.join(data, Frames.times(64, 49), new int[] {24, 0})), RPOS);
        counted("a BAD byte behind 64", y, 2, 0, 1, 1);
        heard("behind FILE", NAK, Frames.bytes(Frames.FILE, 0, false), new int[] {24, 0});
    }

    private static void the65th() {
        int[] data = Frames.bytes(Frames.DATA, 0, false);
        FrameFerry x = Rig.opened(DUE, 3, 300);
        int[] most = Frames.times(64, 49);
        DUE.same("64 bytes", Rig.toReceiver(DUE, x, Frames.join(data, most)));
        DUE.same("the 65th", Rig.toReceiver(DUE, x, 1), RPOS);
        counted("the 65th", x, 2, 0, 1, 1);
        FrameFerry y = Rig.opened(DUE, 3, 300);
        DUE.same("64 bytes and 24", Rig.toReceiver(DUE, y, Frames.join(data, most, new int[] {24})));
        DUE.same("the 65th, escaped", Rig.toReceiver(DUE, y, 64), RPOS);
        counted("the 65th, escaped", y, 2, 0, 1, 1);
        heard("behind FILE", NAK, Frames.bytes(Frames.FILE, 0, false), Frames.times(65, 'a'));
        FrameFerry turned = Rig.withFile(3, Frames.times(64, 24));
        turned.start(false, 64);
        Rig.rounds(turned, 2);
        turned.receiver();
        DUE.same("64 escaped ones are fine", Look.got(turned, 3), Frames.times(64, 24));
        counted("64 escaped ones", turned, 4, 0, 2, 0);
        DUE.same("so is their next one", Rig.toReceiver(DUE, Rig.opened(DUE, 3, 300),
            Frames.join(Frames.data(0, Frames.G, most), Frames.packet(Frames.W, false, most))), Frames.hex(Frames.ACK, 128));
    }

    private static void wrongCheckOfPacket() {
        for (int form = 0; form < 2; form++) {
            boolean check32 = form == 1;
            int[] good = Frames.join(Frames.bytes(Frames.DATA, 0, check32), Frames.packet(Frames.E, check32, 200, 201, 202));
            int first = Frames.bytes(Frames.DATA, 0, check32).length;
            int lead = first + 3;
            for (int at = first; at < good.length; at++) {
                if (at == lead) {
                    continue;
                }
                int[] row = good.clone();
                row[at] ^= at == lead + 1 ? 2 : 4;
                FrameFerry x = Rig.opened(DUE, 3, 300);
                DUE.same("before its end", Rig.toReceiver(DUE, x, Arrays.copyOf(row, row.length - 1)));
                DUE.same("a wrong bit at " + at, Rig.toReceiver(DUE, x, row[row.length - 1]), RPOS);
                counted("a wrong CHECK", x, 2, 0, 1, 1);
                DUE.is("nothing is put", x.count(5), 0);
            }
        }
    }

    private static void behindEOrW() {
        FrameFerry x = Rig.opened(DUE, 3, 300);
        DUE.same("E", Rig.toReceiver(DUE, x, Frames.join(Frames.data(0, Frames.E, 1), RQINIT)), RINIT);
        DUE.same("W", Rig.toReceiver(DUE, x, Frames.join(Frames.data(1, Frames.W, 1), RQINIT)),
            Frames.join(Frames.hex(Frames.ACK, 2), RINIT));
        DUE.same("what looks like a PACKET", Rig.toReceiver(DUE, x, Frames.packet(Frames.W, false, 1)));
        heard("W behind FILE", Frames.join(Frames.hex(Frames.RPOS, 0), RINIT), Frames.name(3, 9, false), RQINIT);
        heard("E behind FILE", Frames.join(Frames.hex(Frames.RPOS, 0), RINIT), Frames.bytes(Frames.FILE, 0, false),
            Frames.packet(Frames.E, false, 'c', 0, 1), RQINIT);
    }

    private static void behindBad() {
        for (int end = Frames.E; end <= Frames.W; end++) {
            FrameFerry x = Rig.opened(DUE, 3, 300);
            int[] bad = Frames.packet(end, false, 1, 2, 3);
            bad[0] ^= 1;
            int[] row = Frames.join(Frames.bytes(Frames.DATA, 0, false), bad, Frames.packet(Frames.G, false, 4, 5),
                Frames.packet(Frames.E, false, 7), Frames.bytes(Frames.EOF, 7, false), RQINIT);
            DUE.same("one RPOS, the rest is passed over", Rig.toReceiver(DUE, x, row),
                Frames.join(Frames.hex(Frames.RPOS, 0), RINIT));
            counted("counts", x, 4, 0, 1, 1);
        }
        heard("behind the 65th byte", Frames.join(NAK, RINIT), Frames.bytes(Frames.FILE, 0, false), Frames.times(65, 1), RQINIT);
        heard("behind 24 and 0", Frames.join(NAK, RINIT), Frames.bytes(Frames.FILE, 0, false), new int[] {24, 0}, RQINIT);
    }

    private static void theNextOne() {
        FrameFerry x = Rig.opened(DUE, 3, 300);
        DUE.same("Q", Rig.toReceiver(DUE, x, Frames.data(0, Frames.Q, 1)), Frames.hex(Frames.ACK, 1));
        DUE.same("an empty one with Q", Rig.toReceiver(DUE, x, Frames.packet(Frames.Q, false)), Frames.hex(Frames.ACK, 1));
        DUE.same("G", Rig.toReceiver(DUE, x, Frames.packet(Frames.G, false, 9, 9)));
        DUE.same("64 bytes more", Rig.toReceiver(DUE, x, Frames.packet(Frames.Q, false, Frames.times(64, 48))),
            Frames.hex(Frames.ACK, 67));
        DUE.same("W", Rig.toReceiver(DUE, x, Frames.packet(Frames.W, false, 9)), Frames.hex(Frames.ACK, 68));
        counted("counts", x, 2, 0, 6, 0);
        FrameFerry y = Rig.waiting(false);
        int[] row = Frames.join(Frames.bytes(Frames.FILE, 0, false), Frames.packet(Frames.G, false, 'c', 0, 1),
            Frames.packet(Frames.W, false, 'd', 0, 1), RQINIT);
        DUE.same("behind FILE", Rig.toReceiver(DUE, y, row),
            Frames.join(Frames.hex(Frames.RPOS, 0), Frames.hex(Frames.RPOS, 0), RINIT));
        DUE.is("letter", y.count(4), 3);
    }

    /** The sender reads by the same rules; no PACKETS follow for it. */
    private static void theSenderReadsSo() {
        FrameFerry x = Rig.withFile(2, 1, 2, 3);
        x.start(false, 8);
        int[] bad = RINIT.clone();
        bad[17] ^= 1;
        DUE.same("a BAD HEADER", Rig.toSender(DUE, x, bad));
        int[] rinit = Frames.bytes(Frames.RINIT, 32, true);
        for (int i = 0; i < rinit.length - 1; i++) {
            DUE.same("a piece", Rig.toSender(DUE, x, rinit[i]));
        }
        DUE.same("RINIT in bytes", Rig.toSender(DUE, x, rinit[rinit.length - 1]), Frames.name(2, 3, true));
        DUE.same("no PACKETS for the sender", Rig.toSender(DUE, x,
            Frames.join(Frames.bytes(Frames.DATA, 0, false), Frames.bytes(Frames.FILE, 0, false), NAK)), Frames.name(2, 3, true));
        DUE.same("behind a BAD one", Rig.toSender(DUE, x, Frames.join(new int[] {42, 24, 66, 0}, NAK)), Frames.name(2, 3, true));
    }
}
