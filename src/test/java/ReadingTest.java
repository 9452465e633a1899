/** READING, ESCAPED, CHECK 16 and CHECK 32, as the receiver and the sender read. */
public final class ReadingTest {
    private static final Due DUE = new Due();
    private static final int[] NONE = {};
    private static final int[] NAK = Frames.hex(Frames.NAK, 0);
    private static final int[] RINIT = Frames.hex(Frames.RINIT, 0);

    public static void main(String[] args) {
        bytesBeforeArePassedOver();
        starsAgainChangeNothing();
        leadsThatFail();
        digitsInBothCases();
        badDigits();
        wrongChecksOfHeaders();
        headersInBytes();
        badEscapesInHeaders();
        escapesThatAreRead();
        escapedHeaderBytes();
        headersInPieces();
        packetsInPieces();
        packetsUpTo64();
        badEscapesInPackets();
        wrongChecksOfPackets();
        endsInTheCheckAreBad();
        outsideBehindBadPacket();
        theSenderReadsSo();
        DUE.end();
    }

    private static void heard(String what, int[] want, int[]... rows) {
        DUE.same(what, Rig.toReceiver(DUE, Rig.waiting(false), Frames.join(rows)), want);
    }

    private static void counted(String what, FrameFerry x, int good, int bad, int goodPackets, int badPackets) {
        DUE.is(what + ": good HEADERS", x.count(8), good);
        DUE.is(what + ": BAD HEADERS", x.count(9), bad);
        DUE.is(what + ": good PACKETS", x.count(10), goodPackets);
        DUE.is(what + ": BAD PACKETS", x.count(11), badPackets);
    }

    private static void bytesBeforeArePassedOver() {
        heard("noise before", RINIT, new int[] {0, 255, 24, 66, 48, 13, 10}, Frames.hex(0, 0));
        heard("noise behind", RINIT, Frames.hex(0, 0), new int[] {24, 65, 66});
        heard("two of them", Frames.join(RINIT, RINIT), Frames.hex(0, 0), Frames.hex(0, 0));
        heard("without 13 10", Frames.join(RINIT, RINIT), Frames.digits(0, 0), Frames.digits(0, 0));
    }

    private static void starsAgainChangeNothing() {
        int[] rest = java.util.Arrays.copyOfRange(Frames.hex(0, 0), 2, 20);
        heard("one star", RINIT, new int[] {42}, rest);
        heard("five stars", RINIT, Frames.times(5, 42), rest);
        heard("no star", NONE, rest);
        heard("two stars before bytes", RINIT, new int[] {42}, Frames.bytes(0, 0, false));
    }

    private static void leadsThatFail() {
        int[] rest = java.util.Arrays.copyOfRange(Frames.hex(0, 0), 4, 20);
        heard("another form", NONE, new int[] {42, 24, 64}, rest);
        heard("another form", NONE, new int[] {42, 24, 68}, rest);
        heard("a byte behind the star", NONE, new int[] {42, 0, 24, 66}, rest);
        heard("a star behind the lead is outside", NONE, new int[] {42, 24, 42, 24, 66}, rest);
        heard("a lead behind the lead is outside", NONE, new int[] {42, 24, 24, 66}, rest);
    }

    private static void digitsInBothCases() {
        int[] small = Frames.digits(Frames.RQINIT, 0xabcdef);
        int[] large = small.clone();
        for (int i = 4; i < large.length; i++) {
            large[i] = large[i] >= 'a' ? large[i] - 32 : large[i];
        }
        heard("small digits", RINIT, small);
        heard("large digits", RINIT, large);
    }

    private static void badDigits() {
        int[] wrong = {0, 10, 13, 24, 42, 47, 58, 64, 71, 96, 103, 128 + 48, 255};
        for (int value : wrong) {
            for (int at = 4; at < 18; at += 13) {
                int[] row = Frames.hex(0, 0);
                row[at] = value;
                FrameFerry x = Rig.waiting(false);
                DUE.same("digit " + value + " at " + at, Rig.toReceiver(DUE, x, row), NAK);
                counted("digit " + value, x, 0, 1, 0, 0);
            }
        }
        int[] cut = java.util.Arrays.copyOf(Frames.hex(0, 0), 9);
        heard("a cut one eats the next one's star", NAK, cut, new int[] {42, 24, 66}, Frames.times(14, 48));
        heard("a cut one leaves the second star", Frames.join(NAK, RINIT), cut, Frames.hex(0, 0));
    }

    private static void wrongChecksOfHeaders() {
        for (int at = 5; at < 18; at++) {
            int[] row = Frames.hex(0, 0);
            row[at] ^= 1;
            heard("a wrong digit at " + at, NAK, row);
        }
        for (int form = 0; form < 2; form++) {
            int[] good = Frames.bytes(0, 0x01020304, form == 1);
            for (int at = 3; at < good.length; at++) {
                for (int bit = 0; bit < 3; bit++) {
                    int[] row = good.clone();
                    row[at] ^= 128 >> bit;
                    heard("a wrong bit at " + at, NAK, row);
                }
            }
        }
    }

    private static void headersInBytes() {
        for (int form = 0; form < 2; form++) {
            heard("RQINIT in bytes", RINIT, Frames.bytes(Frames.RQINIT, 0, form == 1));
            heard("RQINIT with a number", RINIT, Frames.bytes(Frames.RQINIT, 0x80ff7f2a, form == 1));
            heard("two in bytes", Frames.join(RINIT, RINIT), Frames.bytes(0, 1, form == 1), Frames.bytes(0, 2, form == 0));
        }
        heard("the other check in 65", NAK, new int[] {42, 24, 65},
            java.util.Arrays.copyOfRange(Frames.bytes(0, 1, true), 3, 12));
    }

    private static void badEscapesInHeaders() {
        for (int value = 0; value < 256; value++) {
            boolean good = (value & 0x60) == 0x40 || value == 108 || value == 109;
            if (good) {
                continue;
            }
            FrameFerry x = Rig.waiting(false);
            DUE.same("24 and " + value, Rig.toReceiver(DUE, x, 42, 24, 65, 0, 24, value, 42, 24, 65), NAK);
            counted("24 and " + value, x, 0, 1, 0, 0);
        }
    }

    private static void escapesThatAreRead() {
        for (int value = 0; value < 256; value++) {
            int meant = (value & 0x60) == 0x40 ? value ^ 64 : value == 108 ? 127 : value == 109 ? 255 : -1;
            if (meant < 0) {
                continue;
            }
            int[] check = Frames.escaped(Frames.check(new int[] {meant, Frames.E}, false));
            FrameFerry x = opened(false, 9);
            Rig.toReceiver(DUE, x, Frames.join(Frames.bytes(Frames.DATA, 0, false),
                new int[] {24, value, 24, Frames.E}, check));
            DUE.same("24 and " + value, Look.got(x, 9), new int[] {meant});
        }
    }

    private static void escapedHeaderBytes() {
        int[] numbers = {0x10111318, 0x90919318, 0x7fff187f};
        for (int p : numbers) {
            heard("escaped 16", RINIT, Frames.bytes(Frames.RQINIT, p, false));
            heard("escaped 32", RINIT, Frames.bytes(Frames.RQINIT, p, true));
        }
        int[] five = Frames.headerBytes(Frames.RQINIT, 0xff7f);
        int[] check = Frames.escaped(Frames.check(five, false));
        heard("24 108 and 24 109 in a header", RINIT,
            new int[] {42, 24, 65, 0, 24, 108, 24, 109, 0, 0}, check);
        int[] bare = {42, 24, 65, 0, 17, 19, 145, 147};
        int[] bareCheck = Frames.escaped(Frames.check(new int[] {0, 17, 19, 145, 147}, false));
        heard("bytes that need not be escaped to be read", RINIT, bare, bareCheck);
    }

    private static FrameFerry opened(boolean check32, int letter) {
        FrameFerry x = Rig.waiting(check32);
        DUE.same("RPOS", Rig.toReceiver(DUE, x, Frames.name(letter, 300, check32)), Frames.hex(Frames.RPOS, 0));
        return x;
    }

    private static void headersInPieces() {
        int[][] rows = {Frames.digits(0, 0), Frames.bytes(0, 0x18181818, false), Frames.bytes(0, 0x18181818, true)};
        for (int[] row : rows) {
            FrameFerry x = Rig.waiting(false);
            for (int i = 0; i < row.length - 1; i++) {
                DUE.same("a piece", Rig.toReceiver(DUE, x, row[i]), NONE);
            }
            DUE.same("the last piece", Rig.toReceiver(DUE, x, row[row.length - 1]), RINIT);
        }
    }

    private static void packetsInPieces() {
        FrameFerry x = opened(true, 3);
        Rig.toReceiver(DUE, x, Frames.bytes(Frames.DATA, 0, true));
        int[] row = Frames.packet(Frames.Q, true, 24, 16, 0, 145);
        for (int i = 0; i < row.length - 1; i++) {
            DUE.same("a piece", Rig.toReceiver(DUE, x, row[i]), NONE);
            DUE.is("nothing is put before it is whole", x.count(5), 0);
        }
        DUE.same("the last piece", Rig.toReceiver(DUE, x, row[row.length - 1]), Frames.hex(Frames.ACK, 4));
        DUE.same("what it got", Look.got(x, 3), new int[] {24, 16, 0, 145});
    }

    private static void packetsUpTo64() {
        FrameFerry x = opened(false, 3);
        int[] data = Frames.bytes(Frames.DATA, 0, false);
        int[] full = Frames.rising(100, 64);
        DUE.same("64 bytes", Rig.toReceiver(DUE, x, Frames.join(data, Frames.packet(Frames.W, false, full))),
            Frames.hex(Frames.ACK, 64));
        counted("64 bytes", x, 2, 0, 2, 0);
        int[] more = Frames.bytes(Frames.DATA, 64, false);
        DUE.same("64 bytes and an escape", Rig.toReceiver(DUE, x, Frames.join(more, full, new int[] {24})), NONE);
        DUE.same("the 65th", Rig.toReceiver(DUE, x, 64), Frames.hex(Frames.RPOS, 64));
        counted("the 65th, escaped", x, 3, 0, 2, 1);
        DUE.same("the 65th at once", Rig.toReceiver(DUE, x, Frames.join(more, Frames.times(65, 1), Frames.hex(0, 0))),
            Frames.join(Frames.hex(Frames.RPOS, 64), RINIT));
        counted("the 65th", x, 5, 0, 2, 2);
        DUE.is("nothing is put", x.count(5), 64);
    }

    private static void badEscapesInPackets() {
        for (int value = 0; value < 256; value++) {
            boolean good = (value & 0x60) == 0x40 || value >= 104 && value <= 109;
            if (good) {
                continue;
            }
            FrameFerry x = opened(false, 3);
            DUE.same("24 and " + value,
                Rig.toReceiver(DUE, x, Frames.join(Frames.bytes(Frames.DATA, 0, false), new int[] {7, 24, value})),
                Frames.hex(Frames.RPOS, 0));
            counted("24 and " + value, x, 2, 0, 1, 1);
        }
    }

    private static void wrongChecksOfPackets() {
        for (int form = 0; form < 2; form++) {
            boolean check32 = form == 1;
            int[] good = Frames.packet(Frames.E, check32, 200, 201, 202);
            int[] places = check32 ? new int[] {0, 2, 5, 6, 7, 8} : new int[] {0, 2, 5, 6};
            for (int at : places) {
                int[] row = good.clone();
                row[at] ^= 2;
                FrameFerry x = opened(check32, 3);
                int[] heard = Rig.toReceiver(DUE, x, Frames.join(Frames.bytes(Frames.DATA, 0, check32), row));
                DUE.same("a wrong bit at " + at, heard, Frames.hex(Frames.RPOS, 0));
                counted("a wrong bit at " + at, x, 2, 0, 1, 1);
                DUE.is("nothing is put", x.got(3, 0), FrameFerry.NONE);
            }
            int[] other = good.clone();
            other[4] = Frames.W;
            FrameFerry x = opened(check32, 3);
            DUE.same("another END", Rig.toReceiver(DUE, x,
                Frames.join(Frames.bytes(Frames.DATA, 0, check32), other)), Frames.hex(Frames.RPOS, 0));
        }
    }

    private static void endsInTheCheckAreBad() {
        FrameFerry x = opened(false, 3);
        DUE.same("24 and 104 in a check",
            Rig.toReceiver(DUE, x, Frames.join(Frames.bytes(Frames.DATA, 0, false), new int[] {1, 24, 104, 24, 104})),
            Frames.hex(Frames.RPOS, 0));
        counted("24 and 104 in a check", x, 2, 0, 1, 1);
    }

    private static void outsideBehindBadPacket() {
        FrameFerry x = opened(false, 3);
        int[] bad = Frames.packet(Frames.G, false, 1, 2, 3);
        bad[0] ^= 1;
        int[] heard = Rig.toReceiver(DUE, x, Frames.join(Frames.bytes(Frames.DATA, 0, false), bad,
            Frames.packet(Frames.G, false, 4, 5, 6), Frames.packet(Frames.E, false, 7), Frames.bytes(Frames.EOF, 7, false)));
        DUE.same("one RPOS, and the rest is passed over", heard, Frames.hex(Frames.RPOS, 0));
        counted("behind a BAD one", x, 3, 0, 1, 1);
    }

    private static void theSenderReadsSo() {
        FrameFerry x = Rig.withFile(2, 1, 2, 3);
        x.start(false, 8);
        int[] bad = Frames.hex(Frames.RINIT, 0);
        bad[17] ^= 1;
        DUE.same("a BAD HEADER", Rig.toSender(DUE, x, bad), NONE);
        int[] rinit = Frames.bytes(Frames.RINIT, 32, true);
        for (int i = 0; i < rinit.length - 1; i++) {
            DUE.same("a piece", Rig.toSender(DUE, x, rinit[i]), NONE);
        }
        DUE.same("RINIT in bytes", Rig.toSender(DUE, x, rinit[rinit.length - 1]), Frames.name(2, 3, true));
        DUE.same("no PACKETS for the sender", Rig.toSender(DUE, x,
            Frames.join(Frames.bytes(Frames.DATA, 0, false), Frames.hex(Frames.NAK, 0))), Frames.name(2, 3, true));
        DUE.is("all of UP is read", x.count(7), 0);
    }
}
