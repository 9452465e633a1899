public final class TermReceiverTest {
    private static final Due DUE = new Due("THE RECEIVER");
    private static final int[] NAK = Frames.hex(Frames.NAK, 0);
    private static final int[] SKIP = Frames.hex(Frames.SKIP, 0);
    private static final int[] RINIT = Frames.hex(Frames.RINIT, 0);
    private static final int[] RQINIT = Frames.hex(Frames.RQINIT, 0);

    public static void main(String[] args) {
        DUE.test("THE RECEIVER has FILES by letters, with what it got of them", TermReceiverTest::files);
        DUE.test("a POSITION, if one is open: how much", TermReceiverTest::position);
        DUE.test("It acts so: RQINIT: RINIT", TermReceiverTest::rqinit);
        DUE.test("FILE (in HEX: nothing)", TermReceiverTest::fileInHex);
        DUE.test("no FILE is open any more, and a PACKET follows", TermReceiverTest::fileCloses);
        DUE.test("when it is good: its bytes are a letter a .. z, and the file's length as two bytes, the highest first",
            TermReceiverTest::fileNames);
        DUE.test("any others: NAK", TermReceiverTest::otherNames);
        DUE.test("if it has this FILE with that length, or more, SKIP", TermReceiverTest::fileSkips);
        DUE.test("else it is open (made, if it is not there), RPOS", TermReceiverTest::fileOpens);
        DUE.test("When it is BAD: NAK", TermReceiverTest::fileBad);
        DUE.test("DATA (in HEX: nothing)", TermReceiverTest::dataInHex);
        DUE.test("if a FILE is open and P is the POSITION, PACKETS follow", TermReceiverTest::dataFollows);
        DUE.test("a good one is put behind what is there", TermReceiverTest::dataPuts);
        DUE.test("and with Q or W there is ACK", TermReceiverTest::dataAcks);
        DUE.test("a BAD one: RPOS", TermReceiverTest::dataBad);
        DUE.test("If P is not the POSITION: RPOS, and no PACKETS follow", TermReceiverTest::dataElsewhere);
        DUE.test("without an open FILE nothing", TermReceiverTest::dataWithout);
        DUE.test("EOF: if one is open and P is the POSITION, it is closed, and RINIT", TermReceiverTest::eof);
        DUE.test("else nothing", TermReceiverTest::eofElsewhere);
        DUE.test("FIN: FIN, and it is DONE", TermReceiverTest::fin);
        DUE.test("A BAD HEADER: NAK", TermReceiverTest::badHeader);
        DUE.test("All others: nothing", TermReceiverTest::others);
        DUE.test("When it is DONE it reads nothing more (what is left in DOWN stays)", TermReceiverTest::done);
        DUE.test("All that it sends are HEADERS in HEX: P is the POSITION for RPOS and ACK", TermReceiverTest::numbers);
        DUE.test("32 for RINIT if it can CHECK 32, else 0", TermReceiverTest::otherNumbers);
        DUE.test("What it got is at most 300 bytes a FILE: the rest of a PACKET above that is left out",
            TermReceiverTest::atMost300);
        DUE.end();
    }

    private static int[] rpos(int p) {
        return Frames.hex(Frames.RPOS, p);
    }

    private static int[] named(int end, int... name) {
        return Frames.join(Frames.bytes(Frames.FILE, 0, false), Frames.packet(end, false, name));
    }

    private static void files() {
        FrameFerry x = new FrameFerry();
        for (int letter = 0; letter < 26; letter++) {
            x.open(letter);
            x.feed(2, letter << 24 | 7 << 16, 0, 0, 0);
            if (letter % 4 == 3 || letter == 25) {
                x.start(false, 8);
                Rig.rounds(x, 12);
                x.clear();
            }
        }
        for (int letter = 0; letter < 26; letter++) {
            DUE.same("letter " + letter, Look.got(x, letter), letter, 7);
        }
    }

    private static void position() {
        FrameFerry x = Rig.waiting(false);
        DUE.is("none open", x.count(5), FrameFerry.NONE);
        Rig.toReceiver(DUE, x, Frames.name(3, 9, false));
        DUE.is("open", x.count(5), 0);
        Rig.toReceiver(DUE, x, Frames.data(0, Frames.E, 1, 2, 3));
        DUE.is("three", x.count(5), 3);
        Rig.toReceiver(DUE, x, Frames.name(4, 9, false));
        DUE.is("another one", x.count(5), 0);
        Rig.toReceiver(DUE, x, Frames.name(3, 9, false));
        DUE.is("the first one again", x.count(5), 3);
    }

    private static void rqinit() {
        FrameFerry x = Rig.holding(DUE, 4, 10, 1);
        DUE.same("in HEX", Rig.toReceiver(DUE, x, Frames.hex(Frames.RQINIT, 77)), RINIT);
        DUE.same("in BYTES", Rig.toReceiver(DUE, x, Frames.bytes(Frames.RQINIT, 0, true)), RINIT);
        DUE.is("what is open stays so", x.count(4), 4);
        DUE.is("POSITION", x.count(5), 1);
    }

    private static void fileInHex() {
        FrameFerry x = Rig.holding(DUE, 3, 9, 1);
        DUE.same("nothing", Rig.toReceiver(DUE, x, Frames.hex(Frames.FILE, 0)));
        DUE.is("it stays open", x.count(4), 3);
        DUE.same("no PACKET follows", Rig.toReceiver(DUE, x, RQINIT), RINIT);
        DUE.is("a good HEADER", x.count(8), 4);
    }

    private static void fileCloses() {
        FrameFerry x = Rig.holding(DUE, 3, 9, 1);
        DUE.same("nothing is sent for the HEADER", Rig.toReceiver(DUE, x, Frames.bytes(Frames.FILE, 5, false)));
        DUE.is("none is open", x.count(4), FrameFerry.NONE);
        DUE.is("no POSITION", x.count(5), FrameFerry.NONE);
        DUE.same("a PACKET", Rig.toReceiver(DUE, x, Frames.packet(Frames.W, false, 'c', 0, 1)), rpos(0));
        DUE.is("letter", x.count(4), 2);
        FrameFerry y = Rig.opened(DUE, 2, 9);
        Rig.toReceiver(DUE, y, named(Frames.W, 'c', 0, 0));
        DUE.is("none is open behind SKIP", y.count(4), FrameFerry.NONE);
        Rig.toReceiver(DUE, y, Frames.name(2, 9, false));
        Rig.toReceiver(DUE, y, named(Frames.W, 'C', 0, 9));
        DUE.is("nor behind NAK", y.count(4), FrameFerry.NONE);
    }

    private static void fileNames() {
        for (int letter = 'a'; letter <= 'z'; letter++) {
            FrameFerry x = Rig.waiting(false);
            DUE.same("letter " + letter, Rig.toReceiver(DUE, x, named(Frames.W, letter, 0, 9)), rpos(0));
            DUE.is("letter", x.count(4), letter - 'a');
        }
        int[][] lengths = {{0, 3}, {2, 0}, {0, 255}, {255, 255}, {128, 0}};
        for (int[] two : lengths) {
            FrameFerry y = Rig.reached(3, 2);
            DUE.same("0 and 2 is 2", Rig.toReceiver(DUE, y, named(Frames.W, 'd', 0, 2)), SKIP);
            DUE.same(two[0] + " and " + two[1] + " is more", Rig.toReceiver(DUE, y, named(Frames.W, 'd', two[0], two[1])),
                rpos(2));
        }
        DUE.same("1 and 1 is 257", Rig.toReceiver(DUE, Rig.reached(3, 257), named(Frames.W, 'd', 1, 1)), SKIP);
        DUE.same("1 and 2 is 258", Rig.toReceiver(DUE, Rig.reached(3, 257), named(Frames.W, 'd', 1, 2)), rpos(257));
    }

    private static void otherNames() {
        int[][] wrong = {{}, {97}, {97, 0}, {97, 0, 1, 0}, {96, 0, 1}, {123, 0, 1}, {65, 0, 1}, {225, 0, 1}, {0, 0, 0},
            {255, 255, 255}, Frames.times(64, 97)};
        for (int[] name : wrong) {
            FrameFerry x = Rig.opened(DUE, 3, 9);
            DUE.same("a name of " + name.length, Rig.toReceiver(DUE, x, named(Frames.W, name)), NAK);
            DUE.is("none is open", x.count(4), FrameFerry.NONE);
            DUE.is("the PACKET is good", x.count(10), 2);
            DUE.is("and not BAD", x.count(11), 0);
            DUE.is("nothing is made", x.got(0, 0), FrameFerry.NONE);
            DUE.same("which is so", Rig.toReceiver(DUE, x, Frames.name(0, 0, false)), rpos(0));
        }
    }

    private static void fileSkips() {
        for (int length = 0; length <= 5; length++) {
            FrameFerry x = Rig.reached(7, 5);
            DUE.same("it has " + length, Rig.toReceiver(DUE, x, Frames.name(7, length, false)), SKIP);
            DUE.is("none is open", x.count(4), FrameFerry.NONE);
            DUE.same("what it got stays", Look.got(x, 7), 0, 1, 2, 3, 4);
        }
        DUE.same("it has not 6", Rig.toReceiver(DUE, Rig.reached(7, 5), Frames.name(7, 6, false)), rpos(5));
        DUE.same("nor 261", Rig.toReceiver(DUE, Rig.reached(7, 5), Frames.name(7, 261, false)), rpos(5));
        FrameFerry y = Rig.reached(7, 5);
        DUE.same("nor the next letter", Rig.toReceiver(DUE, y, Frames.name(8, 5, false)), rpos(0));
        DUE.same("which it has then, empty", Rig.toReceiver(DUE, y, Frames.name(8, 0, false)), SKIP);
    }

    private static void fileOpens() {
        FrameFerry x = Rig.waiting(false);
        DUE.same("made, even an empty one", Rig.toReceiver(DUE, x, Frames.name(0, 0, false)), rpos(0));
        DUE.is("letter", x.count(4), 0);
        DUE.is("POSITION", x.count(5), 0);
        DUE.same("another one", Rig.toReceiver(DUE, x, Frames.name(25, 300, false)), rpos(0));
        DUE.is("letter", x.count(4), 25);
        FrameFerry y = Rig.reached(25, 3);
        Rig.toReceiver(DUE, y, Frames.bytes(Frames.EOF, 3, false));
        DUE.same("one that is there, closed", Rig.toReceiver(DUE, y, Frames.name(25, 4, false)), rpos(3));
        DUE.same("one that is there, open", Rig.toReceiver(DUE, y, Frames.name(25, 4, false)), rpos(3));
        DUE.same("with what it got", Look.got(y, 25), 0, 1, 2);
    }

    private static void fileBad() {
        int[] file = Frames.bytes(Frames.FILE, 0, false);
        int[] wrong = Frames.packet(Frames.W, false, 'e', 0, 9);
        wrong[wrong.length - 1] ^= 1;
        int[][] packets = {wrong, {24, 0}, Frames.times(65, 97)};
        for (int[] packet : packets) {
            FrameFerry x = Rig.opened(DUE, 3, 9);
            DUE.same("BAD", Rig.toReceiver(DUE, x, Frames.join(file, packet)), NAK);
            DUE.is("none is open", x.count(4), FrameFerry.NONE);
            DUE.is("BAD PACKETS", x.count(11), 1);
            DUE.same("nothing is made", Rig.toReceiver(DUE, x, Frames.name(4, 0, false)), rpos(0));
        }
    }

    private static void dataInHex() {
        FrameFerry x = Rig.holding(DUE, 3, 9, 1);
        DUE.same("at the POSITION", Rig.toReceiver(DUE, x, Frames.hex(Frames.DATA, 1)));
        DUE.same("no PACKETS follow", Rig.toReceiver(DUE, x, RQINIT), RINIT);
        DUE.same("elsewhere", Rig.toReceiver(DUE, x, Frames.hex(Frames.DATA, 7)));
        DUE.is("good HEADERS", x.count(8), 5);
    }

    private static void dataFollows() {
        FrameFerry x = Rig.opened(DUE, 3, 300);
        DUE.same("at 0", Rig.toReceiver(DUE, x, Frames.bytes(Frames.DATA, 0, false)));
        int[] packets = Frames.join(Frames.packet(Frames.Q, false, 1), Frames.packet(Frames.W, false, 2));
        DUE.same("PACKETS", Rig.toReceiver(DUE, x, packets), Frames.join(Frames.hex(Frames.ACK, 1), Frames.hex(Frames.ACK, 2)));
        DUE.same("at 2", Rig.toReceiver(DUE, x, Frames.data(2, Frames.W, 3)), Frames.hex(Frames.ACK, 3));
        DUE.same("and with the other CHECK", Rig.toReceiver(DUE, x, Frames.join(Frames.bytes(Frames.DATA, 3, true),
            Frames.packet(Frames.W, true, 4))), Frames.hex(Frames.ACK, 4));
    }

    private static void dataPuts() {
        FrameFerry x = Rig.opened(DUE, 3, 9);
        Rig.toReceiver(DUE, x, Frames.join(Frames.data(0, Frames.G, 1, 2), Frames.packet(Frames.G, false),
            Frames.packet(Frames.G, false, 3), Frames.packet(Frames.E, false, 4)));
        DUE.same("all of them", Look.got(x, 3), 1, 2, 3, 4);
        Rig.toReceiver(DUE, x, Frames.data(4, Frames.E, 24, 255));
        DUE.same("more", Look.got(x, 3), 1, 2, 3, 4, 24, 255);
        Rig.toReceiver(DUE, x, Frames.data(6, Frames.E, 7, 8, 9, 10));
        DUE.is("the length that FILE told is no bound", x.count(5), 10);
        DUE.is("letters beside it", x.got(2, 0) + x.got(4, 0), 2 * FrameFerry.NONE);
    }

    private static void dataAcks() {
        FrameFerry x = Rig.opened(DUE, 3, 9);
        DUE.same("E", Rig.toReceiver(DUE, x, Frames.data(0, Frames.E, 1)));
        DUE.same("G", Rig.toReceiver(DUE, x, Frames.data(1, Frames.G, 1)));
        DUE.same("Q", Rig.toReceiver(DUE, x, Frames.packet(Frames.Q, false, 1)), Frames.hex(Frames.ACK, 3));
        DUE.same("W", Rig.toReceiver(DUE, x, Frames.packet(Frames.W, false, 1)), Frames.hex(Frames.ACK, 4));
        DUE.same("an empty one", Rig.toReceiver(DUE, x, Frames.data(4, Frames.W)), Frames.hex(Frames.ACK, 4));
    }

    private static void dataBad() {
        FrameFerry x = Rig.opened(DUE, 3, 9);
        int[] bad = Frames.packet(Frames.W, false, 5, 6);
        bad[1] ^= 64;
        DUE.same("a good one, a BAD one", Rig.toReceiver(DUE, x, Frames.join(Frames.data(0, Frames.G, 1, 2), bad)), rpos(2));
        DUE.same("what is good stays", Look.got(x, 3), 1, 2);
        DUE.is("it stays open", x.count(4), 3);
        DUE.is("POSITION", x.count(5), 2);
    }

    private static void dataElsewhere() {
        int[] wrong = {0, 2, 4, 259, 0x03000000, -1, Integer.MIN_VALUE, 3 - 65536};
        for (int p : wrong) {
            FrameFerry x = Rig.holding(DUE, 3, 9, 1, 2, 3);
            DUE.same("DATA at " + p, Rig.toReceiver(DUE, x, Frames.join(Frames.data(p, Frames.W, 4), RQINIT)),
                Frames.join(rpos(3), RINIT));
            DUE.is("good PACKETS", x.count(10), 2);
            DUE.is("BAD PACKETS", x.count(11), 0);
            DUE.is("nothing is put", x.count(5), 3);
        }
    }

    private static void dataWithout() {
        FrameFerry x = Rig.waiting(false);
        DUE.same("nothing, and no PACKETS", Rig.toReceiver(DUE, x, Frames.join(Frames.data(0, Frames.W, 1), RQINIT)), RINIT);
        DUE.is("good HEADERS", x.count(8), 2);
        DUE.is("good PACKETS", x.count(10), 0);
        DUE.same("elsewhere too", Rig.toReceiver(DUE, x, Frames.data(-1, Frames.W, 1)));
    }

    private static void eof() {
        FrameFerry x = Rig.holding(DUE, 3, 9, 1, 2);
        DUE.same("RINIT", Rig.toReceiver(DUE, x, Frames.bytes(Frames.EOF, 2, false)), RINIT);
        DUE.is("it is closed", x.count(4), FrameFerry.NONE);
        DUE.is("no POSITION", x.count(5), FrameFerry.NONE);
        DUE.same("what it got stays", Look.got(x, 3), 1, 2);
        DUE.same("of an empty one, in HEX", Rig.toReceiver(DUE, Rig.opened(DUE, 3, 9), Frames.hex(Frames.EOF, 0)), RINIT);
        DUE.same("behind its PACKETS", Rig.toReceiver(DUE, Rig.opened(DUE, 3, 2),
            Frames.join(Frames.data(0, Frames.E, 1, 2), Frames.bytes(Frames.EOF, 2, true))), RINIT);
    }

    private static void eofElsewhere() {
        int[] wrong = {0, 1, 3, 9, 258, 0x02000000, -1};
        for (int p : wrong) {
            FrameFerry x = Rig.holding(DUE, 3, 9, 1, 2);
            DUE.same("EOF at " + p, Rig.toReceiver(DUE, x, Frames.bytes(Frames.EOF, p, false)));
            DUE.is("it stays open", x.count(4), 3);
        }
        FrameFerry y = Rig.waiting(false);
        DUE.same("none is open", Rig.toReceiver(DUE, y, Frames.bytes(Frames.EOF, 0, false)));
        DUE.same("none is open", Rig.toReceiver(DUE, y, Frames.bytes(Frames.EOF, -1, false)));
    }

    private static void fin() {
        FrameFerry x = Rig.holding(DUE, 3, 9, 1, 2);
        DUE.same("FIN", Rig.toReceiver(DUE, x, Frames.hex(Frames.FIN, 5)), Frames.hex(Frames.FIN, 0));
        DUE.is("DONE", x.count(3), 1);
        DUE.is("nothing told that it is closed", x.count(4), 3);
        FrameFerry y = Rig.waiting(true);
        DUE.same("FIN in BYTES", Rig.toReceiver(DUE, y, Frames.bytes(Frames.FIN, 0, true)), Frames.hex(Frames.FIN, 0));
        DUE.is("DONE", y.count(3), 1);
    }

    private static void badHeader() {
        FrameFerry x = Rig.holding(DUE, 3, 9, 1, 2);
        DUE.same("in HEX", Rig.toReceiver(DUE, x, 42, 24, 66, 'x'), NAK);
        DUE.same("in BYTES", Rig.toReceiver(DUE, x, 42, 24, 67, 24, 0), NAK);
        DUE.is("it stays open", x.count(4), 3);
        DUE.is("BAD HEADERS", x.count(9), 2);
    }

    private static void others() {
        int[] types = {1, 2, 3, 5, 6, 7, 9, 12, 13, 99, 255};
        for (int type : types) {
            FrameFerry x = Rig.holding(DUE, 4, 10, 1);
            DUE.same("type " + type, Rig.toReceiver(DUE, x, Frames.hex(type, 1)));
            DUE.same("type " + type, Rig.toReceiver(DUE, x, Frames.bytes(type, 1, true)));
            DUE.is("both are good", x.count(8), 4);
            DUE.is("it stays open", x.count(4), 4);
            DUE.is("POSITION", x.count(5), 1);
        }
    }

    private static void done() {
        FrameFerry x = Rig.waiting(false);
        Rig.put(x, true, Frames.join(Frames.hex(Frames.FIN, 0), RQINIT));
        DUE.is("FIN alone", x.receiver(), 20);
        int[] left = Frames.join(new int[] {13, 10}, RQINIT);
        DUE.same("what is left", Look.pipe(x, true), left);
        DUE.is("it reads nothing more", x.receiver(), 0);
        DUE.same("what is left stays", Look.pipe(x, true), left);
        DUE.is("good HEADERS", x.count(8), 1);
        x.late(true);
        DUE.is("nor what comes", x.receiver(), 0);
        DUE.is("DOWN", x.count(6), 42);
        x.crash();
        DUE.is("till it is not DONE any more", x.receiver(), 40);
    }

    private static void numbers() {
        for (int at = 0; at < 300; at += 37) {
            FrameFerry x = Rig.reached(3, at);
            DUE.same("ACK", Rig.toReceiver(DUE, x, Frames.data(at, Frames.W, 1, 2)), Frames.hex(Frames.ACK, at + 2));
            DUE.same("RPOS", Rig.toReceiver(DUE, x, Frames.bytes(Frames.DATA, 999, true)), rpos(at + 2));
        }
    }

    private static void otherNumbers() {
        for (int can = 0; can < 2; can++) {
            FrameFerry x = Rig.waiting(can == 1);
            int[] rinit = Frames.hex(Frames.RINIT, 32 * can);
            DUE.same("RINIT for RQINIT", Rig.toReceiver(DUE, x, RQINIT), rinit);
            Rig.toReceiver(DUE, x, Frames.join(Frames.name(3, 9, false), Frames.data(0, Frames.E, 1, 2)));
            DUE.same("NAK", Rig.toReceiver(DUE, x, 42, 24, 66, 0), NAK);
            DUE.same("RINIT for EOF", Rig.toReceiver(DUE, x, Frames.bytes(Frames.EOF, 2, false)), rinit);
            DUE.same("SKIP", Rig.toReceiver(DUE, x, Frames.name(3, 2, false)), SKIP);
            FrameFerry y = Rig.holding(DUE, 3, 9, 1, 2);
            DUE.same("FIN", Rig.toReceiver(DUE, y, Frames.hex(Frames.FIN, 32)), Frames.hex(Frames.FIN, 0));
        }
    }

    private static void atMost300() {
        FrameFerry x = Rig.reached(3, 299);
        DUE.same("one of two", Rig.toReceiver(DUE, x, Frames.data(299, Frames.W, 43, 77)), Frames.hex(Frames.ACK, 300));
        DUE.same("the rest is left out", Look.got(x, 3), Frames.rising(0, 300));
        FrameFerry y = Rig.reached(3, 300);
        DUE.same("none of two", Rig.toReceiver(DUE, y, Frames.data(300, Frames.W, 1, 2)), Frames.hex(Frames.ACK, 300));
        DUE.is("POSITION", y.count(5), 300);
        DUE.is("all were good", y.count(10), 7);
        DUE.is("none was BAD", y.count(11), 0);
        DUE.same("it has not 301", Rig.toReceiver(DUE, y, Frames.name(3, 301, false)), rpos(300));
        DUE.same("it has 300", Rig.toReceiver(DUE, y, Frames.name(3, 300, false)), SKIP);
        FrameFerry z = Rig.reached(3, 280);
        DUE.same("the first ones of many", Rig.toReceiver(DUE, z, Frames.data(280, Frames.W, Frames.rising(24, 64))),
            Frames.hex(Frames.ACK, 300));
        DUE.is("the last of them", z.got(3, 299), 43);
        DUE.is("no more", z.got(3, 300), FrameFerry.NONE);
    }
}
