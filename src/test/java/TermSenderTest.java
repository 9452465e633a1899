import java.util.Arrays;

public final class TermSenderTest {
    private static final Due DUE = new Due("THE SENDER");
    private static final int[] RINIT = Frames.hex(Frames.RINIT, 0);
    private static final int[] RINIT_32 = Frames.hex(Frames.RINIT, 32);
    private static final int[] SKIP = Frames.hex(Frames.SKIP, 0);
    private static final int[] NAK = Frames.hex(Frames.NAK, 0);
    private static final int[] FIN = Frames.hex(Frames.FIN, 0);

    public static void main(String[] args) {
        DUE.test("THE SENDER has FILES in a row", TermSenderTest::filesInARow);
        DUE.test("and a STATE: 0 it has sent RQINIT, 1 FILE, 2 it is SENDING from a place on, 3 it has sent EOF, 4 FIN, 5 DONE",
            TermSenderTest::states);
        DUE.test("RINIT: in STATE 0 and 3: the next FILE", TermSenderTest::rinit);
        DUE.test("(the first one, in 0) is sent", TermSenderTest::rinitInState0);
        DUE.test("or FIN in HEX, if there is none", TermSenderTest::rinitWithoutFiles);
        DUE.test("it may CHECK 32 if P of the last one has bit 5", TermSenderTest::check32ByBit5);
        DUE.test("RPOS in STATE 1, 2, 3", TermSenderTest::rposByState);
        DUE.test("if P is not above the file's length", TermSenderTest::rposAbove);
        DUE.test("STATE 2, from P on", TermSenderTest::rposFrom);
        DUE.test("SKIP in STATE 1, 2, 3: as RINIT in 3", TermSenderTest::skip);
        DUE.test("NAK: what it sent last in STATE 0, 1, 3, 4 is sent again", TermSenderTest::nak);
        DUE.test("FIN in STATE 4: it sends 79 79, and is DONE", TermSenderTest::fin);
        DUE.test("All others, and BAD HEADERS: nothing", TermSenderTest::others);
        DUE.test("FILE, DATA, EOF are HEADERS in BYTES, with CHECK 32 if it may", TermSenderTest::inBytes);
        DUE.test("FILE: P 0, then a PACKET with W", TermSenderTest::file);
        DUE.test("When it has read all, in STATE 2, SENDING", TermSenderTest::whenItHasReadAll);
        DUE.test("it sends at most four PACKETS of SIZE bytes", TermSenderTest::fourPackets);
        DUE.test("the last one of a file what is left", TermSenderTest::whatIsLeft);
        DUE.test("which may be none", TermSenderTest::noneIsLeft);
        DUE.test("before the first one since it went to its place DATA with that place", TermSenderTest::dataOnce);
        DUE.test("with G, but the last one with E", TermSenderTest::ends);
        DUE.test("behind that EOF with the file's length, STATE 3", TermSenderTest::eof);
        DUE.end();
    }

    private static int[] rpos(int p) {
        return Frames.hex(Frames.RPOS, p);
    }

    /** Started with one file, letter 2; its FILE has been sent, with CHECK 16. */
    private static FrameFerry named(int size, int... bytes) {
        FrameFerry x = Rig.withFile(2, bytes);
        x.start(false, size);
        DUE.same("FILE", Rig.toSender(DUE, x, RINIT), Frames.name(2, bytes.length, false));
        return x;
    }

    private static FrameFerry threeFiles() {
        FrameFerry x = Rig.withFile(9, Frames.rising(0, 100));
        x.open(4);
        Rig.feed(x, 4, 5);
        x.open(0);
        x.start(false, 8);
        return x;
    }

    private static void seen(String what, FrameFerry x, int state, int number, int place) {
        DUE.is(what + ": STATE", x.count(0), state);
        DUE.is(what + ": number", x.count(1), number);
        DUE.is(what + ": place", x.count(2), place);
    }

    /** All that is sent from a place on, if one packet holds it. */
    private static int[] ended(int length, boolean check32, int from, int... bytes) {
        return Frames.join(Frames.bytes(Frames.DATA, from, check32), Frames.packet(Frames.E, check32, bytes),
            Frames.bytes(Frames.EOF, length, check32));
    }

    private static int[] packets(int end, int size, int first, int many) {
        int[] row = {};
        for (int i = 0; i < many; i++) {
            row = Frames.join(row, Frames.packet(end, false, Frames.rising(first + size * i, size)));
        }
        return row;
    }

    private static void filesInARow() {
        FrameFerry x = threeFiles();
        DUE.same("the first", Rig.toSender(DUE, x, RINIT), Frames.name(9, 100, false));
        DUE.same("the second", Rig.toSender(DUE, x, SKIP), Frames.name(4, 2, false));
        DUE.same("its own bytes", Rig.toSender(DUE, x, rpos(0)), ended(2, false, 0, 4, 5));
        DUE.same("the third", Rig.toSender(DUE, x, RINIT), Frames.name(0, 0, false));
        DUE.same("no more", Rig.toSender(DUE, x, SKIP), FIN);
    }

    private static void states() {
        FrameFerry x = Rig.withFile(2, Frames.rising(0, 100));
        x.start(false, 8);
        seen("RQINIT", x, 0, 0, 0);
        Rig.toSender(DUE, x, RINIT);
        seen("FILE", x, 1, 0, 0);
        Rig.toSender(DUE, x, rpos(0));
        seen("SENDING", x, 2, 0, 32);
        Rig.toSender(DUE, x, rpos(96));
        seen("EOF", x, 3, 0, 100);
        Rig.toSender(DUE, x, RINIT);
        seen("FIN", x, 4, 1, 100);
        Rig.toSender(DUE, x, FIN);
        seen("DONE", x, 5, 1, 100);
    }

    private static void rinit() {
        FrameFerry x = threeFiles();
        Rig.toSender(DUE, x, RINIT);
        DUE.same("in 1", Rig.toSender(DUE, x, RINIT));
        seen("in 1", x, 1, 0, 0);
        Rig.toSender(DUE, x, rpos(0));
        DUE.same("in 2 it just goes on", Rig.toSender(DUE, x, RINIT), packets(Frames.G, 8, 32, 4));
        seen("in 2", x, 2, 0, 64);
        Rig.toSender(DUE, x, rpos(100));
        DUE.same("in 3", Rig.toSender(DUE, x, RINIT), Frames.name(4, 2, false));
        seen("in 3", x, 1, 1, 0);
        FrameFerry y = Rig.inState(4);
        DUE.same("in 4", Rig.toSender(DUE, y, RINIT));
        seen("in 4", y, 4, 1, 100);
        FrameFerry z = Rig.inState(5);
        DUE.same("in 5", Rig.toSender(DUE, z, RINIT));
        seen("in 5", z, 5, 1, 100);
    }

    private static void rinitInState0() {
        FrameFerry x = threeFiles();
        DUE.same("nothing before", Rig.toSender(DUE, x));
        DUE.same("the first one", Rig.toSender(DUE, x, RINIT), Frames.name(9, 100, false));
        Rig.toSender(DUE, x, SKIP);
        seen("the second one", x, 1, 1, 0);
        x.start(false, 8);
        DUE.same("the first one again; two RINITs are as one", Rig.toSender(DUE, x, Frames.join(RINIT, RINIT)),
            Frames.name(9, 100, false));
        seen("the first one", x, 1, 0, 0);
    }

    private static void rinitWithoutFiles() {
        FrameFerry x = Rig.started(true, 8);
        DUE.same("in 0, none at all", Rig.toSender(DUE, x, RINIT_32), FIN);
        seen("in 0", x, 4, 0, 0);
        FrameFerry y = Rig.inState(3);
        DUE.same("in 3, no more", Rig.toSender(DUE, y, RINIT), FIN);
        seen("in 3", y, 4, 1, 100);
    }

    private static void check32ByBit5() {
        int[] numbers = {32, 63, 0xffffffff, 0x120};
        for (int p : numbers) {
            FrameFerry x = Rig.withFile(1, 5, 6);
            x.start(false, 8);
            DUE.same("bit 5 of " + p, Rig.toSender(DUE, x, Frames.hex(Frames.RINIT, p)), Frames.name(1, 2, true));
        }
        int[] others = {0, 31, 64, 0xffffffdf, 0x2000};
        for (int p : others) {
            FrameFerry x = Rig.withFile(1, 5, 6);
            x.start(true, 8);
            DUE.same("no bit 5 of " + p, Rig.toSender(DUE, x, Frames.hex(Frames.RINIT, p)), Frames.name(1, 2, false));
        }
        FrameFerry y = threeFiles();
        Rig.toSender(DUE, y, RINIT_32);
        Rig.toSender(DUE, y, rpos(100));
        DUE.same("the last one has it not", Rig.toSender(DUE, y, RINIT), Frames.name(4, 2, false));
        Rig.toSender(DUE, y, rpos(2));
        DUE.same("the last one has it", Rig.toSender(DUE, y, RINIT_32), Frames.name(0, 0, true));
        FrameFerry z = named(8, 5, 6);
        DUE.same("the last one, though it comes in STATE 1", Rig.toSender(DUE, z, Frames.join(RINIT_32, rpos(0))),
            ended(2, true, 0, 5, 6));
    }

    private static void rposByState() {
        FrameFerry x = Rig.inState(0);
        DUE.same("in 0", Rig.toSender(DUE, x, rpos(0)));
        seen("in 0", x, 0, 0, 0);
        for (int state = 1; state <= 3; state++) {
            FrameFerry y = Rig.inState(state);
            DUE.same("in " + state, Rig.toSender(DUE, y, rpos(4)),
                Frames.join(Frames.bytes(Frames.DATA, 4, false), packets(Frames.G, 8, 4, 4)));
            seen("in " + state, y, 2, 0, 36);
        }
        for (int state = 4; state <= 5; state++) {
            FrameFerry y = Rig.inState(state);
            DUE.same("in " + state, Rig.toSender(DUE, y, rpos(0)));
            seen("in " + state, y, state, 1, 100);
        }
    }

    private static void rposAbove() {
        int[] wrong = {101, 301, 0x01000000, Integer.MAX_VALUE, -1, Integer.MIN_VALUE};
        for (int p : wrong) {
            FrameFerry x = Rig.inState(1);
            DUE.same("RPOS " + p + " in 1", Rig.toSender(DUE, x, rpos(p)));
            seen("RPOS " + p + " in 1", x, 1, 0, 0);
            FrameFerry y = Rig.inState(2);
            DUE.same("RPOS " + p + " in 2: it just goes on", Rig.toSender(DUE, y, rpos(p)), packets(Frames.G, 8, 32, 4));
            FrameFerry z = Rig.inState(3);
            DUE.same("RPOS " + p + " in 3", Rig.toSender(DUE, z, rpos(p)));
            seen("RPOS " + p + " in 3", z, 3, 0, 100);
        }
        DUE.same("just the length", Rig.toSender(DUE, Rig.inState(1), rpos(100)), ended(100, false, 100));
        DUE.same("0 of an empty one", Rig.toSender(DUE, named(8), rpos(0)), ended(0, false, 0));
        DUE.same("1 of an empty one", Rig.toSender(DUE, named(8), rpos(1)));
    }

    private static void rposFrom() {
        for (int p = 0; p < 69; p++) {
            FrameFerry x = Rig.inState(1);
            DUE.same("from " + p + " on", Rig.toSender(DUE, x, rpos(p)),
                Frames.join(Frames.bytes(Frames.DATA, p, false), packets(Frames.G, 8, p, p < 68 ? 4 : 3),
                    p < 68 ? new int[0] : Frames.join(Frames.packet(Frames.E, false, Frames.rising(92, 8)),
                        Frames.bytes(Frames.EOF, 100, false))));
            seen("from " + p + " on", x, p < 68 ? 2 : 3, 0, p + 32);
        }
        FrameFerry y = named(8, 1, 2, 3);
        DUE.same("the last byte", Rig.toSender(DUE, y, rpos(2)), ended(3, false, 2, 3));
    }

    private static void skip() {
        FrameFerry x = threeFiles();
        DUE.same("in 0", Rig.toSender(DUE, x, SKIP));
        seen("in 0", x, 0, 0, 0);
        Rig.toSender(DUE, x, RINIT_32);
        DUE.same("in 1, with the CHECK of the last RINIT", Rig.toSender(DUE, x, SKIP), Frames.name(4, 2, true));
        Rig.toSender(DUE, x, rpos(0));
        seen("EOF", x, 3, 1, 2);
        DUE.same("in 3", Rig.toSender(DUE, x, SKIP), Frames.name(0, 0, true));
        DUE.same("of the last", Rig.toSender(DUE, x, SKIP), FIN);
        DUE.same("in 4", Rig.toSender(DUE, x, SKIP));
        seen("in 4", x, 4, 3, 0);
        FrameFerry z = threeFiles();
        Rig.toSender(DUE, z, RINIT);
        Rig.toSender(DUE, z, rpos(0));
        seen("SENDING", z, 2, 0, 32);
        DUE.same("in 2", Rig.toSender(DUE, z, SKIP), Frames.name(4, 2, false));
        seen("in 2", z, 1, 1, 0);
        FrameFerry y = Rig.inState(5);
        DUE.same("in 5", Rig.toSender(DUE, y, SKIP));
        seen("in 5", y, 5, 1, 100);
    }

    private static void nak() {
        int[] rqinit = Frames.hex(Frames.RQINIT, 0);
        DUE.same("in 0", Rig.toSender(DUE, Rig.inState(0), NAK), rqinit);
        DUE.same("twice", Rig.toSender(DUE, Rig.inState(0), Frames.join(NAK, NAK)), Frames.join(rqinit, rqinit));
        DUE.same("in 1", Rig.toSender(DUE, Rig.inState(1), NAK), Frames.name(2, 100, false));
        DUE.same("in 2 it just goes on", Rig.toSender(DUE, Rig.inState(2), NAK), packets(Frames.G, 8, 32, 4));
        DUE.same("in 3", Rig.toSender(DUE, Rig.inState(3), NAK), Frames.bytes(Frames.EOF, 100, false));
        DUE.same("in 4", Rig.toSender(DUE, Rig.inState(4), NAK), FIN);
        DUE.same("in 5", Rig.toSender(DUE, Rig.inState(5), NAK));
        for (int state = 0; state <= 5; state++) {
            FrameFerry x = Rig.inState(state);
            Rig.toSender(DUE, x, NAK);
            DUE.is("STATE stays", x.count(0), state);
        }
        FrameFerry y = threeFiles();
        Rig.toSender(DUE, y, RINIT_32);
        DUE.same("with its CHECK", Rig.toSender(DUE, y, NAK), Frames.name(9, 100, true));
        Rig.toSender(DUE, y, SKIP);
        DUE.same("what it sent last", Rig.toSender(DUE, y, NAK), Frames.name(4, 2, true));
    }

    private static void fin() {
        FrameFerry x = Rig.inState(4);
        DUE.same("once, for two of them", Rig.toSender(DUE, x, Frames.join(FIN, FIN)), 79, 79);
        seen("DONE", x, 5, 1, 100);
        for (int state = 0; state <= 3; state++) {
            FrameFerry y = Rig.inState(state);
            DUE.same("in " + state, Rig.toSender(DUE, y, FIN), state == 2 ? packets(Frames.G, 8, 32, 4) : new int[0]);
            DUE.is("STATE", y.count(0), state);
        }
        DUE.same("in 5", Rig.toSender(DUE, Rig.inState(5), FIN));
    }

    private static void others() {
        int[] types = {0, 2, 3, 4, 7, 10, 11, 12, 200, 255};
        for (int type : types) {
            nothingComesOf("type " + type + " in HEX", Frames.hex(type, 0));
            nothingComesOf("type " + type + " in BYTES", Frames.bytes(type, 0, false));
        }
        nothingComesOf("a BAD HEADER in HEX", 42, 24, 66, 0);
        nothingComesOf("a BAD HEADER in BYTES", 42, 24, 65, 24, 0);
        int[] bad = Frames.hex(Frames.NAK, 0);
        bad[17] ^= 1;
        nothingComesOf("a wrong CHECK", bad);
    }

    /** In STATE 2 it just goes on. */
    private static void nothingComesOf(String what, int... bytes) {
        for (int state = 0; state <= 5; state++) {
            FrameFerry x = Rig.inState(state);
            int place = x.count(2);
            boolean goesOn = state == 2;
            DUE.same(what, Rig.toSender(DUE, x, bytes), goesOn ? packets(Frames.G, 8, 32, 4) : new int[0]);
            seen(what, x, state, state < 4 ? 0 : 1, goesOn ? place + 32 : place);
        }
    }

    private static void inBytes() {
        for (int may = 0; may < 2; may++) {
            FrameFerry x = Rig.withFile(2, 5, 6);
            x.start(may == 1, 8);
            DUE.same("FILE", Rig.toSender(DUE, x, Frames.hex(Frames.RINIT, 32 * may)), Frames.name(2, 2, may == 1));
            DUE.same("DATA and EOF", Rig.toSender(DUE, x, rpos(0)), ended(2, may == 1, 0, 5, 6));
        }
    }

    private static void file() {
        int[] lengths = {0, 1, 16, 255, 256, 300};
        for (int length : lengths) {
            FrameFerry x = Rig.withFile(25, Frames.times(length, 7));
            x.start(false, 8);
            DUE.same("FILE of " + length, Rig.toSender(DUE, x, RINIT), Frames.join(Frames.bytes(Frames.FILE, 0, false),
                Frames.packet(Frames.W, false, 'z', length / 256, length % 256)));
        }
    }

    private static void whenItHasReadAll() {
        FrameFerry x = named(8, 1, 2, 3, 4);
        DUE.same("the last RPOS that may be", Rig.toSender(DUE, x, Frames.join(rpos(0), rpos(3), rpos(9))),
            ended(4, false, 3, 4));
        FrameFerry y = Rig.withFile(2, 7);
        y.start(false, 8);
        DUE.same("RINIT and RPOS at once", Rig.toSender(DUE, y, Frames.join(RINIT, rpos(0))),
            Frames.join(Frames.name(2, 1, false), ended(1, false, 0, 7)));
        FrameFerry z = threeFiles();
        Rig.toSender(DUE, z, RINIT);
        DUE.same("RPOS and SKIP: no PACKETS", Rig.toSender(DUE, z, Frames.join(rpos(0), SKIP)), Frames.name(4, 2, false));
        DUE.same("nothing in UP is all, too", Rig.toSender(DUE, Rig.inState(2)), packets(Frames.G, 8, 32, 4));
        DUE.same("nothing in STATE 1", Rig.toSender(DUE, Rig.inState(1)));
        DUE.same("nothing in STATE 3", Rig.toSender(DUE, Rig.inState(3)));
    }

    private static void fourPackets() {
        FrameFerry x = named(4, Frames.rising(30, 35));
        DUE.same("four", Rig.toSender(DUE, x, rpos(0)),
            Frames.join(Frames.bytes(Frames.DATA, 0, false), packets(Frames.G, 4, 30, 4)));
        DUE.same("four more", Rig.toSender(DUE, x), packets(Frames.G, 4, 46, 4));
        seen("SENDING", x, 2, 0, 32);
        DUE.same("three bytes", Rig.toSender(DUE, x), Frames.join(Frames.packet(Frames.E, false, 62, 63, 64),
            Frames.bytes(Frames.EOF, 35, false)));
        FrameFerry one = named(1, 5, 6, 7, 8, 9);
        DUE.same("of one byte", Rig.toSender(DUE, one, rpos(0)),
            Frames.join(Frames.bytes(Frames.DATA, 0, false), packets(Frames.G, 1, 5, 4)));
        FrameFerry large = named(64, Frames.rising(0, 300));
        Rig.toSender(DUE, large, rpos(0));
        seen("of 64", large, 2, 0, 256);
    }

    private static void whatIsLeft() {
        DUE.same("less than SIZE", Rig.toSender(DUE, named(8, 1, 2, 3), rpos(0)), ended(3, false, 0, 1, 2, 3));
        DUE.same("just SIZE", Rig.toSender(DUE, named(8, Frames.rising(30, 8)), rpos(0)),
            ended(8, false, 0, Frames.rising(30, 8)));
        FrameFerry x = named(8, Frames.rising(30, 9));
        DUE.same("one more than SIZE", Rig.toSender(DUE, x, rpos(0)), Frames.join(Frames.data(0, Frames.G, Frames.rising(30, 8)),
            Frames.packet(Frames.E, false, 38), Frames.bytes(Frames.EOF, 9, false)));
        FrameFerry four = named(2, Frames.rising(30, 8));
        DUE.same("just four", Rig.toSender(DUE, four, rpos(0)), Frames.join(Frames.bytes(Frames.DATA, 0, false),
            packets(Frames.G, 2, 30, 3), Frames.packet(Frames.E, false, 36, 37), Frames.bytes(Frames.EOF, 8, false)));
        seen("just four", four, 3, 0, 8);
        FrameFerry five = named(2, Frames.rising(30, 9));
        Rig.toSender(DUE, five, rpos(0));
        DUE.same("one byte behind four", Rig.toSender(DUE, five), Frames.join(Frames.packet(Frames.E, false, 38),
            Frames.bytes(Frames.EOF, 9, false)));
    }

    private static void noneIsLeft() {
        FrameFerry x = named(8);
        DUE.same("an empty file", Rig.toSender(DUE, x, rpos(0)), ended(0, false, 0));
        seen("an empty file", x, 3, 0, 0);
        FrameFerry y = named(8, 1, 2, 3);
        DUE.same("from its end on", Rig.toSender(DUE, y, rpos(3)), ended(3, false, 3));
        seen("from its end on", y, 3, 0, 3);
    }

    private static void dataOnce() {
        FrameFerry x = named(4, Frames.rising(30, 100));
        DUE.same("DATA", Rig.toSender(DUE, x, rpos(5)),
            Frames.join(Frames.bytes(Frames.DATA, 5, false), packets(Frames.G, 4, 35, 4)));
        DUE.same("no DATA", Rig.toSender(DUE, x), packets(Frames.G, 4, 51, 4));
        DUE.same("DATA, though it is there", Rig.toSender(DUE, x, rpos(37)),
            Frames.join(Frames.bytes(Frames.DATA, 37, false), packets(Frames.G, 4, 67, 4)));
        DUE.same("DATA, back again", Rig.toSender(DUE, x, rpos(0)),
            Frames.join(Frames.bytes(Frames.DATA, 0, false), packets(Frames.G, 4, 30, 4)));
        DUE.same("no DATA", Rig.toSender(DUE, x), packets(Frames.G, 4, 46, 4));
    }

    private static void ends() {
        FrameFerry x = named(8, Frames.rising(50, 20));
        DUE.same("G, G, E", Rig.toSender(DUE, x, rpos(0)), Frames.join(Frames.bytes(Frames.DATA, 0, false),
            packets(Frames.G, 8, 50, 2), packets(Frames.E, 4, 66, 1), Frames.bytes(Frames.EOF, 20, false)));
        FrameFerry y = named(4, Frames.rising(50, 20));
        DUE.same("four are not the last", Rig.toSender(DUE, y, rpos(0)), Frames.join(Frames.bytes(Frames.DATA, 0, false),
            packets(Frames.G, 4, 50, 4)));
        DUE.same("E", Rig.toSender(DUE, y), Frames.join(packets(Frames.E, 4, 66, 1), Frames.bytes(Frames.EOF, 20, false)));
    }

    private static void eof() {
        int[] lengths = {0, 1, 24, 255, 256};
        for (int length : lengths) {
            FrameFerry x = named(64, Frames.rising(0, length));
            int[] sent = Rig.toSender(DUE, x, rpos(0));
            int[] eof = Frames.bytes(Frames.EOF, length, false);
            DUE.same("EOF", Arrays.copyOfRange(sent, sent.length - eof.length, sent.length), eof);
            seen("EOF", x, 3, 0, length);
            DUE.same("no more", Rig.toSender(DUE, x));
        }
        FrameFerry y = named(64, Frames.rising(0, 300));
        Rig.toSender(DUE, y, rpos(299));
        DUE.same("the file's length, not the place", Rig.toSender(DUE, y, NAK), Frames.bytes(Frames.EOF, 300, false));
    }
}
