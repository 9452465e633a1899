/** THE SENDER and promise 6. */
public final class SenderTest {
    private static final Due DUE = new Due();
    private static final int[] NOTHING = {};
    private static final int[] RINIT = Frames.hex(Frames.RINIT, 0);
    private static final int[] RINIT_32 = Frames.hex(Frames.RINIT, 32);
    private static final int[] SKIP = Frames.hex(Frames.SKIP, 0);
    private static final int[] NAK = Frames.hex(Frames.NAK, 0);
    private static final int[] FIN = Frames.hex(Frames.FIN, 0);

    public static void main(String[] args) {
        rinitSendsTheFirst();
        rinitWithoutFiles();
        check32ByBit5();
        rposSends();
        rposOutside();
        rposByState();
        fourPacketsAtOnce();
        lastPacketAtTheEdges();
        emptyFile();
        fileAfterFile();
        skip();
        nak();
        fin();
        othersDoNothing();
        lastRposCounts();
        escapedContent();
        doneReadsAll();
        DUE.end();
    }

    private static int[] rpos(int p) {
        return Frames.hex(Frames.RPOS, p);
    }

    private static FrameFerry named(int size, int... bytes) {
        FrameFerry x = Rig.withFile(2, bytes);
        x.start(false, size);
        DUE.same("FILE", Rig.toSender(DUE, x, RINIT), Frames.name(2, bytes.length, false));
        return x;
    }

    private static void seen(String what, FrameFerry x, int state, int number, int place) {
        DUE.is(what + ": STATE", x.count(0), state);
        DUE.is(what + ": number", x.count(1), number);
        DUE.is(what + ": place", x.count(2), place);
    }

    private static int[] ended(int length, boolean check32, int from, int... bytes) {
        return Frames.join(Frames.bytes(Frames.DATA, from, check32), Frames.packet(Frames.E, check32, bytes),
            Frames.bytes(Frames.EOF, length, check32));
    }

    private static void rinitSendsTheFirst() {
        FrameFerry x = Rig.withFile(25, Frames.rising(0, 300));
        x.open(0);
        x.start(true, 64);
        DUE.same("nothing yet", Rig.toSender(DUE, x), NOTHING);
        seen("asked", x, 0, 0, 0);
        DUE.same("two RINITs", Rig.toSender(DUE, x, Frames.join(RINIT, RINIT)), Frames.name(25, 300, false));
        seen("named", x, 1, 0, 0);
        DUE.is("UP is read", x.count(7), 0);
    }

    private static void rinitWithoutFiles() {
        FrameFerry x = Rig.started(false, 8);
        DUE.same("FIN", Rig.toSender(DUE, x, RINIT), FIN);
        seen("leaving", x, 4, 0, 0);
    }

    private static void check32ByBit5() {
        int[] numbers = {32, 63, 0xffffffff, 0x120};
        for (int p : numbers) {
            FrameFerry x = Rig.withFile(1, 5, 6);
            x.start(false, 8);
            DUE.same("bit 5 of " + p, Rig.toSender(DUE, x, Frames.hex(Frames.RINIT, p)), Frames.name(1, 2, true));
            DUE.same("DATA too", Rig.toSender(DUE, x, rpos(0)), ended(2, true, 0, 5, 6));
        }
        int[] others = {0, 31, 64, 0xffffffdf, 0x2000};
        for (int p : others) {
            FrameFerry x = Rig.withFile(1, 5, 6);
            x.start(true, 8);
            DUE.same("bit 5 of " + p, Rig.toSender(DUE, x, Frames.hex(Frames.RINIT, p)), Frames.name(1, 2, false));
        }
        FrameFerry y = Rig.withFile(1, 5, 6);
        y.open(2);
        y.open(3);
        y.start(true, 8);
        Rig.toSender(DUE, y, RINIT_32);
        DUE.same("SKIP is no RINIT", Rig.toSender(DUE, y, SKIP), Frames.name(2, 0, true));
        Rig.toSender(DUE, y, rpos(0));
        DUE.same("the last RINIT counts", Rig.toSender(DUE, y, RINIT), Frames.name(3, 0, false));
    }

    private static void rposSends() {
        FrameFerry x = named(8, Frames.rising(50, 20));
        int[] want = Frames.join(Frames.bytes(Frames.DATA, 0, false), Frames.packet(Frames.G, false, Frames.rising(50, 8)),
            Frames.packet(Frames.G, false, Frames.rising(58, 8)), Frames.packet(Frames.E, false, Frames.rising(66, 4)),
            Frames.bytes(Frames.EOF, 20, false));
        DUE.same("from 0 on", Rig.toSender(DUE, x, rpos(0)), want);
        seen("ended", x, 3, 0, 20);
        DUE.same("from 17 on", Rig.toSender(DUE, x, rpos(17)), ended(20, false, 17, 67, 68, 69));
        DUE.same("from the end on", Rig.toSender(DUE, x, rpos(20)), ended(20, false, 20));
        seen("ended", x, 3, 0, 20);
    }

    private static void rposOutside() {
        FrameFerry x = named(8, 1, 2, 3);
        int[] wrong = {4, 301, Integer.MAX_VALUE, -1, Integer.MIN_VALUE};
        for (int p : wrong) {
            DUE.same("RPOS " + p, Rig.toSender(DUE, x, rpos(p)), NOTHING);
            seen("RPOS " + p, x, 1, 0, 0);
        }
    }

    private static void rposByState() {
        FrameFerry x = Rig.withFile(2, 1, 2, 3);
        x.start(false, 8);
        DUE.same("RPOS in 0", Rig.toSender(DUE, x, rpos(0)), NOTHING);
        seen("RPOS in 0", x, 0, 0, 0);
        Rig.toSender(DUE, x, RINIT);
        Rig.toSender(DUE, x, SKIP);
        DUE.same("RPOS in 4", Rig.toSender(DUE, x, rpos(0)), NOTHING);
        seen("RPOS in 4", x, 4, 1, 0);
        Rig.toSender(DUE, x, FIN);
        DUE.same("RPOS in 5", Rig.toSender(DUE, x, rpos(0)), NOTHING);
        seen("RPOS in 5", x, 5, 1, 0);
    }

    private static void fourPacketsAtOnce() {
        FrameFerry x = named(4, Frames.rising(30, 35));
        int[] four = NOTHING;
        int[] next = NOTHING;
        for (int i = 0; i < 4; i++) {
            four = Frames.join(four, Frames.packet(Frames.G, false, Frames.rising(30 + 4 * i, 4)));
            next = Frames.join(next, Frames.packet(Frames.G, false, Frames.rising(46 + 4 * i, 4)));
        }
        DUE.same("DATA and four", Rig.toSender(DUE, x, rpos(0)), Frames.join(Frames.bytes(Frames.DATA, 0, false), four));
        seen("sending", x, 2, 0, 16);
        DUE.same("four more, without DATA", Rig.toSender(DUE, x), next);
        seen("sending", x, 2, 0, 32);
        DUE.same("RPOS in 2", Rig.toSender(DUE, x, rpos(16)), Frames.join(Frames.bytes(Frames.DATA, 16, false), next));
        DUE.same("the last one", Rig.toSender(DUE, x),
            Frames.join(Frames.packet(Frames.E, false, 62, 63, 64), Frames.bytes(Frames.EOF, 35, false)));
        seen("ended", x, 3, 0, 35);
        DUE.same("no more", Rig.toSender(DUE, x), NOTHING);
    }

    private static void lastPacketAtTheEdges() {
        FrameFerry one = named(8, Frames.rising(30, 8));
        DUE.same("just SIZE bytes are the last", Rig.toSender(DUE, one, rpos(0)), ended(8, false, 0, Frames.rising(30, 8)));
        FrameFerry four = named(2, Frames.rising(30, 8));
        DUE.same("the fourth is the last", Rig.toSender(DUE, four, rpos(0)), Frames.join(
            Frames.bytes(Frames.DATA, 0, false), Frames.packet(Frames.G, false, 30, 31), Frames.packet(Frames.G, false, 32, 33),
            Frames.packet(Frames.G, false, 34, 35), Frames.packet(Frames.E, false, 36, 37), Frames.bytes(Frames.EOF, 8, false)));
        seen("ended", four, 3, 0, 8);
    }

    private static void emptyFile() {
        FrameFerry x = named(8);
        DUE.same("none is left", Rig.toSender(DUE, x, rpos(0)), ended(0, false, 0));
        seen("ended", x, 3, 0, 0);
    }

    private static void fileAfterFile() {
        FrameFerry x = Rig.withFile(9, 1, 2, 3);
        x.open(4);
        Rig.feed(x, 4, 5);
        x.start(false, 8);
        DUE.same("the first", Rig.toSender(DUE, x, RINIT), Frames.name(9, 3, false));
        DUE.same("RINIT in 1", Rig.toSender(DUE, x, RINIT), NOTHING);
        Rig.toSender(DUE, x, rpos(0));
        DUE.same("the second", Rig.toSender(DUE, x, RINIT), Frames.name(4, 2, false));
        seen("named", x, 1, 1, 0);
        DUE.same("its bytes", Rig.toSender(DUE, x, rpos(1)), ended(2, false, 1, 5));
        seen("ended", x, 3, 1, 2);
        DUE.same("FIN", Rig.toSender(DUE, x, RINIT), FIN);
        seen("leaving: the latest place stays", x, 4, 2, 2);
        DUE.same("RINIT in 4", Rig.toSender(DUE, x, RINIT), NOTHING);
        DUE.same("OO", Rig.toSender(DUE, x, FIN), new int[] {79, 79});
        seen("done", x, 5, 2, 2);
        x.open(1);
        seen("behind open", x, 5, 3, 2);
        x.clear();
        seen("behind clear", x, 5, 0, 0);
    }

    private static void skip() {
        FrameFerry x = Rig.withFile(9, Frames.rising(0, 100));
        x.open(4);
        x.open(5);
        x.start(false, 8);
        DUE.same("SKIP in 0", Rig.toSender(DUE, x, SKIP), NOTHING);
        Rig.toSender(DUE, x, RINIT);
        DUE.same("SKIP in 1", Rig.toSender(DUE, x, SKIP), Frames.name(4, 0, false));
        Rig.toSender(DUE, x, rpos(0));
        DUE.same("SKIP in 3", Rig.toSender(DUE, x, SKIP), Frames.name(5, 0, false));
        DUE.same("SKIP of the last", Rig.toSender(DUE, x, SKIP), FIN);
        DUE.same("SKIP in 4", Rig.toSender(DUE, x, SKIP), NOTHING);
        x.start(false, 8);
        Rig.toSender(DUE, x, RINIT);
        Rig.toSender(DUE, x, rpos(0));
        seen("sending", x, 2, 0, 32);
        DUE.same("SKIP in 2", Rig.toSender(DUE, x, SKIP), Frames.name(4, 0, false));
        seen("named", x, 1, 1, 0);
    }

    private static void nak() {
        FrameFerry x = Rig.withFile(9, Frames.rising(0, 40));
        x.start(false, 8);
        int[] rqinit = Frames.hex(Frames.RQINIT, 0);
        DUE.same("NAK in 0", Rig.toSender(DUE, x, NAK), rqinit);
        DUE.same("two NAKs", Rig.toSender(DUE, x, Frames.join(NAK, NAK)), Frames.join(rqinit, rqinit));
        Rig.toSender(DUE, x, RINIT_32);
        DUE.same("NAK in 1", Rig.toSender(DUE, x, NAK), Frames.name(9, 40, true));
        Rig.toSender(DUE, x, rpos(0));
        seen("sending", x, 2, 0, 32);
        DUE.same("NAK in 2: it just goes on", Rig.toSender(DUE, x, NAK), Frames.join(
            Frames.packet(Frames.E, true, Frames.rising(32, 8)), Frames.bytes(Frames.EOF, 40, true)));
        DUE.same("NAK in 3", Rig.toSender(DUE, x, NAK), Frames.bytes(Frames.EOF, 40, true));
        Rig.toSender(DUE, x, RINIT);
        DUE.same("NAK in 4", Rig.toSender(DUE, x, NAK), FIN);
        Rig.toSender(DUE, x, FIN);
        DUE.same("NAK in 5", Rig.toSender(DUE, x, NAK), NOTHING);
    }

    private static void fin() {
        FrameFerry x = named(8, 1, 2);
        DUE.same("FIN in 1", Rig.toSender(DUE, x, FIN), NOTHING);
        Rig.toSender(DUE, x, rpos(0));
        DUE.same("FIN in 3", Rig.toSender(DUE, x, FIN), NOTHING);
        Rig.toSender(DUE, x, RINIT);
        DUE.same("FIN in 4, twice", Rig.toSender(DUE, x, Frames.join(FIN, FIN)), new int[] {79, 79});
        seen("done", x, 5, 1, 2);
        FrameFerry y = Rig.started(false, 8);
        DUE.same("FIN in 0", Rig.toSender(DUE, y, FIN), NOTHING);
    }

    private static void othersDoNothing() {
        FrameFerry x = named(8, 1, 2);
        int[] types = {0, 2, 3, 4, 7, 10, 11, 12, 200};
        for (int type : types) {
            DUE.same("type " + type, Rig.toSender(DUE, x, Frames.hex(type, 0)), NOTHING);
            DUE.same("type " + type, Rig.toSender(DUE, x, Frames.bytes(type, 0, false)), NOTHING);
        }
        seen("others", x, 1, 0, 0);
    }

    private static void lastRposCounts() {
        FrameFerry x = named(8, 1, 2, 3, 4);
        DUE.same("all is read first", Rig.toSender(DUE, x, Frames.join(rpos(0), rpos(3), rpos(9))), ended(4, false, 3, 4));
        FrameFerry y = Rig.withFile(2, 7);
        y.start(false, 8);
        DUE.same("RINIT and RPOS at once", Rig.toSender(DUE, y, Frames.join(RINIT, rpos(0))),
            Frames.join(Frames.name(2, 1, false), ended(1, false, 0, 7)));
    }

    private static void escapedContent() {
        FrameFerry x = Rig.withFile(2, Frames.rising(0, 256));
        x.start(true, 64);
        Rig.toSender(DUE, x, RINIT_32);
        int[] want = Frames.bytes(Frames.DATA, 0, true);
        for (int i = 0; i < 4; i++) {
            want = Frames.join(want, Frames.packet(i < 3 ? Frames.G : Frames.E, true, Frames.rising(64 * i, 64)));
        }
        DUE.same("every byte", Rig.toSender(DUE, x, rpos(0)), Frames.join(want, Frames.bytes(Frames.EOF, 256, true)));
        DUE.same("an escaped place", Rig.toSender(DUE, x, rpos(0x90 + 1)), Frames.join(
            Frames.bytes(Frames.DATA, 0x91, true), Frames.packet(Frames.G, true, Frames.rising(0x91, 64)),
            Frames.packet(Frames.E, true, Frames.rising(0xd1, 47)), Frames.bytes(Frames.EOF, 256, true)));
    }

    private static void doneReadsAll() {
        FrameFerry x = new FrameFerry();
        x.crash();
        x.late(false);
        DUE.is("UP", x.count(7), 20);
        DUE.is("a DONE sender sends nothing", x.sender(), 0);
        DUE.is("but reads all", x.count(7), 0);
    }
}
