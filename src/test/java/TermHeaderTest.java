import java.util.Arrays;

public final class TermHeaderTest {
    private static final Due DUE = new Due("A HEADER");
    private static final int[] RINIT = Frames.hex(Frames.RINIT, 0);

    public static void main(String[] args) {
        DUE.test("A HEADER is a TYPE and four bytes P, a number with the lowest byte first", TermHeaderTest::lowestFirst);
        DUE.test("In HEX: 42 42 24 66, then TYPE, P, CHECK 16 of these five (highest byte first)", TermHeaderTest::inHex);
        DUE.test("each byte as two digits 0 .. 9 a .. f", TermHeaderTest::digits);
        DUE.test("A .. F may be read, too", TermHeaderTest::largeDigits);
        DUE.test("then 13 10", TermHeaderTest::lineEnd);
        DUE.test("In BYTES: 42 24 65, then, ESCAPED, TYPE, P and CHECK 16 (highest byte first)", TermHeaderTest::inBytes);
        DUE.test("with 67 for 65 CHECK 32 (lowest byte first)", TermHeaderTest::inBytes32);
        DUE.test("TYPES: 0 RQINIT, 1 RINIT, 3 ACK, 4 FILE, 5 SKIP, 6 NAK, 8 FIN, 9 RPOS, 10 DATA, 11 EOF", TermHeaderTest::types);
        DUE.end();
    }

    private static int[] lateOf(FrameFerry x) {
        x.lose(false, 0, 3000);
        x.late(false);
        return Look.pipe(x, false);
    }

    private static int[] text(String row) {
        return row.chars().toArray();
    }

    private static void lowestFirst() {
        int[] sent = lateOf(Rig.reached(3, 299));
        DUE.same("299 is 2b 01 00 00", Arrays.copyOfRange(sent, 4, 14), text("092b010000"));
        FrameFerry y = Rig.withFile(3, Frames.times(300, 65));
        y.start(false, 64);
        Rig.toSender(DUE, y, RINIT);
        sent = Rig.toSender(DUE, y, Frames.hex(Frames.RPOS, 299));
        DUE.same("DATA at 299", Arrays.copyOf(sent, 8), 42, 24, 65, 10, 43, 1, 0, 0);
        DUE.same("DATA at 258 is read", Rig.toReceiver(DUE, Rig.reached(3, 258), Frames.data(258, Frames.W, 1)),
            Frames.hex(Frames.ACK, 259));
        int[] others = {0x01020000, 0x02010001, 258 << 8, 258 | 1 << 16, 258 | 1 << 24, 258 | 1 << 31};
        for (int p : others) {
            DUE.same("but not at " + p, Rig.toReceiver(DUE, Rig.reached(3, 258), Frames.data(p, Frames.W, 1)),
                Frames.hex(Frames.RPOS, 258));
        }
    }

    private static void inHex() {
        DUE.same("RINIT with 32, as known", lateOf(Rig.waiting(true)),
            Frames.join(new int[] {42, 42, 24, 66}, text("01200000009d1f"), new int[] {13, 10}));
        DUE.same("RPOS 0, as known", lateOf(Rig.reached(3, 0)),
            Frames.join(new int[] {42, 42, 24, 66}, text("0900000000a87c"), new int[] {13, 10}));
        DUE.same("RINIT, as built", lateOf(Rig.waiting(false)), RINIT);
    }

    private static void digits() {
        for (int position = 0; position <= 300; position += 5) {
            DUE.same("RPOS " + position, lateOf(Rig.reached(3, position)), Frames.hex(Frames.RPOS, position));
        }
        for (int i = 0; i < 256; i++) {
            FrameFerry x = Rig.waiting(false);
            DUE.same("P " + i + " is read", Rig.toReceiver(DUE, x, Frames.hex(Frames.RQINIT, i * 0x01010101)), RINIT);
        }
    }

    private static void largeDigits() {
        int[] row = Frames.digits(Frames.RQINIT, 0xefcdab);
        for (int i = 4; i < row.length; i++) {
            row[i] = Character.toUpperCase(row[i]);
        }
        DUE.same("all large", Rig.toReceiver(DUE, Rig.waiting(false), row), RINIT);
        row[7] = Character.toLowerCase(row[7]);
        DUE.same("mixed", Rig.toReceiver(DUE, Rig.waiting(false), row), RINIT);
        row[6] = 'G';
        DUE.same("G is none", Rig.toReceiver(DUE, Rig.waiting(false), row), Frames.hex(Frames.NAK, 0));
        row[6] = '@';
        DUE.same("nor is what stands before A", Rig.toReceiver(DUE, Rig.waiting(false), row), Frames.hex(Frames.NAK, 0));
    }

    private static void lineEnd() {
        int[] sent = Look.pipe(Rig.started(false, 8), true);
        DUE.same("of the sender's", Arrays.copyOfRange(sent, 18, sent.length), 13, 10);
        sent = lateOf(Rig.waiting(false));
        DUE.same("of the receiver's", Arrays.copyOfRange(sent, 18, sent.length), 13, 10);
        FrameFerry x = Rig.waiting(false);
        DUE.same("read without", Rig.toReceiver(DUE, x, Frames.join(Frames.digits(0, 0), Frames.digits(0, 0))),
            Frames.join(RINIT, RINIT));
    }

    private static void inBytes() {
        for (int p = 0; p <= 300; p++) {
            FrameFerry x = Rig.withFile(3, Frames.times(300, 65));
            x.start(false, 1);
            int[] sent = Rig.toSender(DUE, x, RINIT);
            DUE.same("FILE", Arrays.copyOf(sent, 10), Frames.bytes(Frames.FILE, 0, false));
            int[] want = Frames.bytes(Frames.DATA, p, false);
            sent = Rig.toSender(DUE, x, Frames.hex(Frames.RPOS, p));
            DUE.same("DATA " + p, Arrays.copyOf(sent, want.length), want);
        }
        int[] numbers = {0, 1, 0x10111318, 0x90919318, 0x7fff187f, -1};
        for (int p : numbers) {
            DUE.same("read: " + p, Rig.toReceiver(DUE, Rig.waiting(false), Frames.bytes(0, p, false)), RINIT);
        }
        DUE.same("not with the other CHECK", Rig.toReceiver(DUE, Rig.waiting(false), Frames.join(new int[] {42, 24, 65},
            Arrays.copyOfRange(Frames.bytes(0, 1, true), 3, 12))), Frames.hex(Frames.NAK, 0));
        int[] turned = Frames.bytes(0, 1, false);
        int last = turned[turned.length - 1];
        turned[turned.length - 1] = turned[turned.length - 2];
        turned[turned.length - 2] = last;
        DUE.same("nor lowest first", Rig.toReceiver(DUE, Rig.waiting(false), turned), Frames.hex(Frames.NAK, 0));
    }

    private static void inBytes32() {
        for (int p = 0; p <= 300; p++) {
            FrameFerry x = Rig.withFile(3, Frames.times(300, 65));
            x.start(true, 1);
            Rig.toSender(DUE, x, Frames.hex(Frames.RINIT, 32));
            int[] want = Frames.bytes(Frames.DATA, p, true);
            int[] sent = Rig.toSender(DUE, x, Frames.hex(Frames.RPOS, p));
            DUE.same("DATA " + p, Arrays.copyOf(sent, want.length), want);
        }
        int[] numbers = {0, 1, 0x10111318, 0x90919318, 0x7fff187f, -1};
        for (int p : numbers) {
            DUE.same("read: " + p, Rig.toReceiver(DUE, Rig.waiting(false), Frames.bytes(0, p, true)), RINIT);
        }
        int[] cut = Frames.bytes(0, 1, true);
        DUE.same("not before its fourth byte", Rig.toReceiver(DUE, Rig.waiting(false), Arrays.copyOf(cut, cut.length - 1)));
    }

    private static void type(String what, int[] sent, int type) {
        int value = sent[2] == 24 && sent[3] == 66 ? Character.digit(sent[4], 16) * 16 + Character.digit(sent[5], 16) : sent[3];
        DUE.is(what, value, type);
    }

    private static void types() {
        type("RQINIT", Look.pipe(Rig.started(false, 8), true), 0);
        FrameFerry x = Rig.waiting(false);
        type("RINIT", Rig.toReceiver(DUE, x, Frames.hex(0, 0)), 1);
        type("RPOS", Rig.toReceiver(DUE, x, Frames.name(3, 9, false)), 9);
        type("ACK", Rig.toReceiver(DUE, x, Frames.data(0, Frames.W, 1)), 3);
        type("SKIP", Rig.toReceiver(DUE, x, Frames.name(3, 1, false)), 5);
        type("NAK", Rig.toReceiver(DUE, x, 42, 24, 66, 0), 6);
        type("FIN of the receiver", Rig.toReceiver(DUE, x, Frames.hex(8, 0)), 8);
        FrameFerry y = Rig.withFile(3, 1);
        y.start(false, 8);
        type("FILE", Rig.toSender(DUE, y, Frames.hex(1, 0)), 4);
        type("DATA", Rig.toSender(DUE, y, Frames.hex(9, 0)), 10);
        type("EOF", Rig.toSender(DUE, y, Frames.hex(6, 0)), 11);
        type("FIN of the sender", Rig.toSender(DUE, y, Frames.hex(1, 0)), 8);
    }
}
