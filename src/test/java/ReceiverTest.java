/** THE RECEIVER and promise 7. */
public final class ReceiverTest {
    private static final Due DUE = new Due();
    private static final int[] NOTHING = {};
    private static final int[] NAK = Frames.hex(Frames.NAK, 0);

    public static void main(String[] args) {
        rqinit();
        others();
        fileOpens();
        fileSkips();
        fileNames();
        fileInHex();
        fileBad();
        fileClosesWhatWasOpen();
        fileGoesOnBehindG();
        dataPuts();
        dataEnds();
        dataElsewhere();
        dataWithout();
        dataBad();
        dataAbove300();
        eof();
        fin();
        badHeader();
        checksOfEitherKind();
        DUE.end();
    }

    private static FrameFerry opened(int letter, int length) {
        FrameFerry x = Rig.waiting(false);
        DUE.same("RPOS", Rig.toReceiver(DUE, x, Frames.name(letter, length, false)), Frames.hex(Frames.RPOS, 0));
        return x;
    }

    private static int[] data(int p, int end, int... bytes) {
        return Frames.join(Frames.bytes(Frames.DATA, p, false), Frames.packet(end, false, bytes));
    }

    private static void rqinit() {
        FrameFerry x = Rig.waiting(false);
        DUE.same("RINIT", Rig.toReceiver(DUE, x, Frames.hex(Frames.RQINIT, 0)), Frames.hex(Frames.RINIT, 0));
        FrameFerry y = Rig.waiting(true);
        DUE.same("RINIT 32", Rig.toReceiver(DUE, y, Frames.hex(Frames.RQINIT, 77)), Frames.hex(Frames.RINIT, 32));
        FrameFerry z = opened(4, 10);
        DUE.same("RINIT with one open", Rig.toReceiver(DUE, z, Frames.hex(Frames.RQINIT, 0)), Frames.hex(Frames.RINIT, 0));
        DUE.is("it stays open", z.count(4), 4);
    }

    private static void others() {
        FrameFerry x = opened(4, 10);
        int[] types = {1, 2, 3, 5, 6, 7, 9, 12, 13, 99, 255};
        for (int type : types) {
            DUE.same("type " + type, Rig.toReceiver(DUE, x, Frames.hex(type, 0)), NOTHING);
            DUE.same("type " + type, Rig.toReceiver(DUE, x, Frames.bytes(type, 0, true)), NOTHING);
        }
        DUE.is("all are good", x.count(8), 1 + 2 * types.length);
        DUE.is("it stays open", x.count(4), 4);
    }

    private static void fileOpens() {
        FrameFerry x = Rig.waiting(false);
        DUE.same("the first letter", Rig.toReceiver(DUE, x, Frames.name(0, 0, false)), Frames.hex(Frames.RPOS, 0));
        DUE.is("letter", x.count(4), 0);
        DUE.is("POSITION", x.count(5), 0);
        DUE.same("the last letter", Rig.toReceiver(DUE, x, Frames.name(25, 65535, false)), Frames.hex(Frames.RPOS, 0));
        DUE.is("letter", x.count(4), 25);
        Rig.toReceiver(DUE, x, data(0, Frames.E, 5, 6, 7));
        DUE.same("once more, with more", Rig.toReceiver(DUE, x, Frames.name(25, 4, false)), Frames.hex(Frames.RPOS, 3));
        DUE.is("POSITION", x.count(5), 3);
        DUE.is("good PACKETS", x.count(10), 4);
    }

    private static void fileSkips() {
        FrameFerry x = opened(7, 300);
        Rig.toReceiver(DUE, x, data(0, Frames.E, Frames.rising(0, 5)));
        for (int length = 0; length <= 5; length++) {
            DUE.same("it has " + length, Rig.toReceiver(DUE, x, Frames.name(7, length, false)), Frames.hex(Frames.SKIP, 0));
            DUE.is("none is open", x.count(4), FrameFerry.NONE);
        }
        DUE.same("it has not 6", Rig.toReceiver(DUE, x, Frames.name(7, 6, false)), Frames.hex(Frames.RPOS, 5));
        DUE.same("nor 261", Rig.toReceiver(DUE, x, Frames.name(7, 261, false)), Frames.hex(Frames.RPOS, 5));
        DUE.same("an empty one is made", Rig.toReceiver(DUE, x, Frames.name(8, 0, false)), Frames.hex(Frames.RPOS, 0));
        DUE.same("and then there", Rig.toReceiver(DUE, x, Frames.name(8, 0, false)), Frames.hex(Frames.SKIP, 0));
    }

    private static void fileNames() {
        int[][] wrong = {{}, {97}, {97, 0}, {97, 0, 1, 0}, {96, 0, 1}, {123, 0, 1}, {65, 0, 1}, {225, 0, 1}, {0, 0, 0}};
        for (int[] name : wrong) {
            FrameFerry x = opened(3, 9);
            int[] row = Frames.join(Frames.bytes(Frames.FILE, 0, false), Frames.packet(Frames.W, false, name));
            DUE.same("a name of " + name.length, Rig.toReceiver(DUE, x, row), NAK);
            DUE.is("none is open", x.count(4), FrameFerry.NONE);
            DUE.is("the PACKET is good", x.count(10), 2);
            DUE.is("and not BAD", x.count(11), 0);
        }
    }

    private static void fileInHex() {
        FrameFerry x = opened(3, 9);
        DUE.same("FILE in HEX", Rig.toReceiver(DUE, x, Frames.hex(Frames.FILE, 0)), NOTHING);
        DUE.is("it stays open", x.count(4), 3);
        DUE.same("no PACKET follows", Rig.toReceiver(DUE, x, Frames.hex(Frames.RQINIT, 0)), Frames.hex(Frames.RINIT, 0));
        DUE.same("DATA in HEX", Rig.toReceiver(DUE, x, Frames.hex(Frames.DATA, 0)), NOTHING);
        DUE.same("DATA in HEX elsewhere", Rig.toReceiver(DUE, x, Frames.hex(Frames.DATA, 7)), NOTHING);
        DUE.same("no PACKET follows", Rig.toReceiver(DUE, x, Frames.hex(Frames.RQINIT, 0)), Frames.hex(Frames.RINIT, 0));
        DUE.is("all are good", x.count(8), 6);
    }

    private static void fileBad() {
        FrameFerry x = opened(3, 9);
        int[] row = Frames.name(4, 9, false);
        row[row.length - 1] ^= 1;
        DUE.same("a BAD one", Rig.toReceiver(DUE, x, row), NAK);
        DUE.is("none is open", x.count(4), FrameFerry.NONE);
        DUE.is("BAD PACKETS", x.count(11), 1);
        DUE.is("good HEADERS", x.count(8), 2);
        DUE.same("24 and 0", Rig.toReceiver(DUE, x, Frames.join(Frames.bytes(Frames.FILE, 0, false), new int[] {24, 0})), NAK);
        DUE.same("outside", Rig.toReceiver(DUE, x, Frames.hex(Frames.RQINIT, 0)), Frames.hex(Frames.RINIT, 0));
    }

    private static void fileClosesWhatWasOpen() {
        FrameFerry x = opened(3, 9);
        DUE.same("the header alone", Rig.toReceiver(DUE, x, Frames.bytes(Frames.FILE, 5, true)), NOTHING);
        DUE.is("none is open", x.count(4), FrameFerry.NONE);
        DUE.is("no POSITION", x.count(5), FrameFerry.NONE);
        DUE.same("its PACKET, with the header's check",
            Rig.toReceiver(DUE, x, Frames.packet(Frames.E, true, 'c', 0, 1)), Frames.hex(Frames.RPOS, 0));
        DUE.is("letter", x.count(4), 2);
    }

    private static void fileGoesOnBehindG() {
        FrameFerry x = Rig.waiting(false);
        int[] row = Frames.join(Frames.bytes(Frames.FILE, 0, false), Frames.packet(Frames.G, false, 'c', 0, 1),
            Frames.packet(Frames.W, false, 'd', 0, 1), Frames.hex(Frames.RQINIT, 0));
        DUE.same("a PACKET with G has a next one", Rig.toReceiver(DUE, x, row),
            Frames.join(Frames.hex(Frames.RPOS, 0), Frames.hex(Frames.RPOS, 0), Frames.hex(Frames.RINIT, 0)));
        DUE.is("letter", x.count(4), 3);
    }

    private static void dataPuts() {
        FrameFerry x = opened(3, 9);
        DUE.same("good ones", Rig.toReceiver(DUE, x, Frames.join(data(0, Frames.G, 1, 2),
            Frames.packet(Frames.G, false), Frames.packet(Frames.G, false, 3), Frames.packet(Frames.E, false, 4))), NOTHING);
        DUE.same("all are put", Look.got(x, 3), new int[] {1, 2, 3, 4});
        DUE.is("POSITION", x.count(5), 4);
        DUE.is("good PACKETS", x.count(10), 5);
        DUE.same("more", Rig.toReceiver(DUE, x, data(4, Frames.E, 24, 255)), NOTHING);
        DUE.same("behind what is there", Look.got(x, 3), new int[] {1, 2, 3, 4, 24, 255});
    }

    private static void dataEnds() {
        FrameFerry x = opened(3, 9);
        int[] rqinit = Frames.hex(Frames.RQINIT, 0);
        int[] rinit = Frames.hex(Frames.RINIT, 0);
        DUE.same("E: outside", Rig.toReceiver(DUE, x, Frames.join(data(0, Frames.E, 1), rqinit)), rinit);
        DUE.same("W: ACK, outside", Rig.toReceiver(DUE, x, Frames.join(data(1, Frames.W, 1), rqinit)),
            Frames.join(Frames.hex(Frames.ACK, 2), rinit));
        DUE.same("Q: ACK, the next one", Rig.toReceiver(DUE, x, data(2, Frames.Q, 1)), Frames.hex(Frames.ACK, 3));
        DUE.same("the next one", Rig.toReceiver(DUE, x, Frames.packet(Frames.Q, false)), Frames.hex(Frames.ACK, 3));
        DUE.same("the next one", Rig.toReceiver(DUE, x, Frames.packet(Frames.G, false, 9, 9)), NOTHING);
        DUE.same("the next one", Rig.toReceiver(DUE, x, Frames.packet(Frames.W, false, 9)), Frames.hex(Frames.ACK, 6));
        DUE.same("outside", Rig.toReceiver(DUE, x, rqinit), rinit);
    }

    private static void dataElsewhere() {
        FrameFerry x = opened(3, 9);
        Rig.toReceiver(DUE, x, data(0, Frames.E, 1, 2, 3));
        int[] wrong = {0, 2, 4, 259, 0x03000000, -1, 3 - 65536};
        for (int p : wrong) {
            DUE.same("DATA at " + p, Rig.toReceiver(DUE, x, data(p, Frames.W, 4)), Frames.hex(Frames.RPOS, 3));
        }
        DUE.is("no PACKETS follow", x.count(10), 2);
        DUE.is("nor BAD ones", x.count(11), 0);
        DUE.is("nothing is put", x.count(5), 3);
    }

    private static void dataWithout() {
        FrameFerry x = Rig.waiting(false);
        DUE.same("DATA without an open FILE", Rig.toReceiver(DUE, x, data(0, Frames.W, 1)), NOTHING);
        DUE.is("the header is good", x.count(8), 1);
        DUE.is("no PACKETS", x.count(10), 0);
    }

    private static void dataBad() {
        FrameFerry x = opened(3, 9);
        int[] bad = Frames.packet(Frames.W, false, 5, 6);
        bad[1] ^= 64;
        DUE.same("a good one, a BAD one", Rig.toReceiver(DUE, x, Frames.join(data(0, Frames.G, 1, 2), bad)),
            Frames.hex(Frames.RPOS, 2));
        DUE.same("what is good stays", Look.got(x, 3), new int[] {1, 2});
        DUE.is("good", x.count(10), 2);
        DUE.is("BAD", x.count(11), 1);
        DUE.is("it stays open", x.count(4), 3);
    }

    private static void dataAbove300() {
        FrameFerry x = opened(3, 65535);
        Rig.toReceiver(DUE, x, Frames.join(data(0, Frames.G, Frames.rising(0, 64)),
            Frames.packet(Frames.G, false, Frames.rising(64, 64)), Frames.packet(Frames.G, false, Frames.rising(128, 64))));
        DUE.same("up to 256", Rig.toReceiver(DUE, x, Frames.packet(Frames.Q, false, Frames.rising(192, 64))),
            Frames.hex(Frames.ACK, 256));
        DUE.same("up to 300", Rig.toReceiver(DUE, x, Frames.packet(Frames.W, false, Frames.rising(0, 64))),
            Frames.hex(Frames.ACK, 300));
        DUE.same("the rest is left out", Look.got(x, 3), Frames.rising(0, 300));
        DUE.same("all is left out", Rig.toReceiver(DUE, x, data(300, Frames.W, 1, 2)), Frames.hex(Frames.ACK, 300));
        DUE.is("good PACKETS", x.count(10), 7);
        DUE.same("it has not 301", Rig.toReceiver(DUE, x, Frames.name(3, 301, false)), Frames.hex(Frames.RPOS, 300));
        DUE.same("it has 300", Rig.toReceiver(DUE, x, Frames.name(3, 300, false)), Frames.hex(Frames.SKIP, 0));
    }

    private static void eof() {
        FrameFerry x = opened(3, 9);
        Rig.toReceiver(DUE, x, data(0, Frames.E, 1, 2));
        DUE.same("EOF elsewhere", Rig.toReceiver(DUE, x, Frames.bytes(Frames.EOF, 9, false)), NOTHING);
        DUE.is("it stays open", x.count(4), 3);
        DUE.same("EOF at the POSITION", Rig.toReceiver(DUE, x, Frames.bytes(Frames.EOF, 2, false)), Frames.hex(Frames.RINIT, 0));
        DUE.is("it is closed", x.count(4), FrameFerry.NONE);
        DUE.is("no POSITION", x.count(5), FrameFerry.NONE);
        DUE.same("what it got stays", Look.got(x, 3), new int[] {1, 2});
        DUE.same("EOF without", Rig.toReceiver(DUE, x, Frames.bytes(Frames.EOF, 2, false)), NOTHING);
        FrameFerry y = opened(3, 9);
        DUE.same("EOF in HEX", Rig.toReceiver(DUE, y, Frames.hex(Frames.EOF, 0)), Frames.hex(Frames.RINIT, 0));
    }

    private static void fin() {
        FrameFerry x = opened(3, 9);
        Rig.toReceiver(DUE, x, data(0, Frames.E, 1, 2));
        Rig.put(x, true, Frames.join(Frames.hex(Frames.FIN, 5), Frames.hex(Frames.RQINIT, 0)));
        DUE.is("FIN", x.receiver(), 20);
        DUE.same("FIN", Look.pipe(x, false), Frames.hex(Frames.FIN, 0));
        DUE.is("DONE", x.count(3), 1);
        int[] left = Frames.join(new int[] {13, 10}, Frames.hex(Frames.RQINIT, 0));
        DUE.same("what is left stays", Look.pipe(x, true), left);
        DUE.is("it reads nothing more", x.receiver(), 0);
        DUE.same("what is left stays", Look.pipe(x, true), left);
        DUE.is("good HEADERS", x.count(8), 3);
        DUE.is("late", x.late(false), 0);
        DUE.is("nothing told that it is closed", x.count(4), 3);
    }

    private static void badHeader() {
        FrameFerry x = opened(3, 9);
        Rig.toReceiver(DUE, x, data(0, Frames.E, 1, 2));
        DUE.same("NAK has P 0", Rig.toReceiver(DUE, x, 42, 24, 66, 'x'), NAK);
        DUE.is("it stays open", x.count(4), 3);
        DUE.is("BAD HEADERS", x.count(9), 1);
    }

    private static void checksOfEitherKind() {
        FrameFerry x = Rig.waiting(false);
        int[] row = Frames.join(Frames.name(3, 9, true), Frames.bytes(Frames.DATA, 0, true),
            Frames.packet(Frames.E, true, 1, 2), Frames.bytes(Frames.EOF, 2, true));
        DUE.same("CHECK 32 is read by one that has not told it", Rig.toReceiver(DUE, x, row),
            Frames.join(Frames.hex(Frames.RPOS, 0), Frames.hex(Frames.RINIT, 0)));
        DUE.same("what it got", Look.got(x, 3), new int[] {1, 2});
    }
}
