import java.util.Arrays;

public final class TermPacketTest {
    private static final Due DUE = new Due("A PACKET");

    public static void main(String[] args) {
        DUE.test("A PACKET is at most 64 bytes", TermPacketTest::atMost64);
        DUE.test("ESCAPED, then 24 and an END", TermPacketTest::bytesAndEnd);
        DUE.test("104 E, 105 G, 106 Q, 107 W", TermPacketTest::ends);
        DUE.test("then, ESCAPED, the CHECK of these bytes and END", TermPacketTest::check);
        DUE.test("as in the HEADER before it: 16, highest byte first, or 32, lowest first", TermPacketTest::asInTheHeader);
        DUE.end();
    }

    /** What the class sends of a file from its beginning on. */
    private static int[] sent(boolean check32, int size, int... bytes) {
        FrameFerry x = Rig.withFile(3, bytes);
        x.start(check32, size);
        Rig.toSender(DUE, x, Frames.hex(Frames.RINIT, check32 ? 32 : 0));
        return Rig.toSender(DUE, x, Frames.hex(Frames.RPOS, 0));
    }

    private static void atMost64() {
        int[] first = Frames.data(0, Frames.G, Frames.times(64, 65));
        DUE.same("64 are sent", Arrays.copyOf(sent(false, 64, Frames.times(300, 65)), first.length), first);
        FrameFerry x = Rig.opened(DUE, 3, 300);
        DUE.same("64 are read", Rig.toReceiver(DUE, x, Frames.data(0, Frames.W, Frames.rising(0, 64))),
            Frames.hex(Frames.ACK, 64));
        FrameFerry y = Rig.opened(DUE, 3, 300);
        DUE.same("65 are not", Rig.toReceiver(DUE, y, Frames.data(0, Frames.W, Frames.rising(25, 65))),
            Frames.hex(Frames.RPOS, 0));
        DUE.is("BAD PACKETS", y.count(11), 1);
        FrameFerry z = Rig.opened(DUE, 3, 300);
        DUE.same("none is read", Rig.toReceiver(DUE, z, Frames.data(0, Frames.W)), Frames.hex(Frames.ACK, 0));
    }

    private static void bytesAndEnd() {
        int[] bytes = {24, 1, 17, 255};
        int[] row = sent(false, 8, bytes);
        DUE.same("the bytes, 24, END", Arrays.copyOfRange(row, 10, 18), 24, 88, 1, 24, 81, 255, 24, 104);
        FrameFerry x = Rig.opened(DUE, 3, 9);
        Rig.toReceiver(DUE, x, Frames.data(0, Frames.E, bytes));
        DUE.same("read", Look.got(x, 3), bytes);
    }

    private static void ends() {
        int[] ack = Frames.hex(Frames.ACK, 1);
        int[][] answers = {{}, {}, ack, ack};
        for (int i = 0; i < 4; i++) {
            FrameFerry x = Rig.opened(DUE, 3, 9);
            DUE.same("END " + (104 + i), Rig.toReceiver(DUE, x, Frames.data(0, 104 + i, 5)), answers[i]);
            Rig.toReceiver(DUE, x, Frames.packet(Frames.E, false, 6));
            boolean next = i == 1 || i == 2;
            DUE.is("the next one behind " + (104 + i), x.count(5), next ? 2 : 1);
        }
        int[] row = Frames.name(3, 1, false);
        FrameFerry y = Rig.withFile(3, 1);
        y.start(false, 8);
        DUE.same("W of the sender", Rig.toSender(DUE, y, Frames.hex(Frames.RINIT, 0)), row);
        DUE.same("G and E of the sender", sent(false, 1, 65, 66), Frames.join(Frames.data(0, Frames.G, 65),
            Frames.packet(Frames.E, false, 66), Frames.bytes(Frames.EOF, 2, false)));
    }

    private static void check() {
        for (int value = 0; value < 256; value++) {
            DUE.same("of " + value, sent(false, 8, value),
                Frames.join(Frames.data(0, Frames.E, value), Frames.bytes(Frames.EOF, 1, false)));
        }
        for (int end = Frames.E; end <= Frames.W; end++) {
            int[] other = Frames.packet(end, false, 5);
            other[2] = end == Frames.W ? Frames.E : end + 1;
            FrameFerry x = Rig.opened(DUE, 3, 9);
            DUE.same("another END than was checked", Rig.toReceiver(DUE, x,
                Frames.join(Frames.bytes(Frames.DATA, 0, false), other)), Frames.hex(Frames.RPOS, 0));
        }
        int found = 0;
        for (int value = 0; value < 256; value++) {
            if (Frames.packet(Frames.W, false, value, 1).length > Frames.escaped(new int[] {value, 1}).length + 4) {
                found++;
                FrameFerry x = Rig.opened(DUE, 3, 9);
                DUE.same("an escaped CHECK", Rig.toReceiver(DUE, x, Frames.data(0, Frames.W, value, 1)),
                    Frames.hex(Frames.ACK, 2));
            }
        }
        DUE.is("there were some", found > 5, true);
    }

    private static void asInTheHeader() {
        DUE.same("16", sent(false, 8, 1, 2), Frames.join(Frames.data(0, Frames.E, 1, 2), Frames.bytes(Frames.EOF, 2, false)));
        DUE.same("32", sent(true, 8, 1, 2), Frames.join(Frames.bytes(Frames.DATA, 0, true), Frames.packet(Frames.E, true, 1, 2),
            Frames.bytes(Frames.EOF, 2, true)));
        for (int can = 0; can < 2; can++) {
            for (int form = 0; form < 2; form++) {
                boolean check32 = form == 1;
                FrameFerry x = Rig.waiting(can == 1);
                DUE.same("FILE", Rig.toReceiver(DUE, x, Frames.name(3, 9, check32)), Frames.hex(Frames.RPOS, 0));
                DUE.same("the header's CHECK", Rig.toReceiver(DUE, x, Frames.join(Frames.bytes(Frames.DATA, 0, check32),
                    Frames.packet(Frames.Q, check32, 1), Frames.packet(Frames.W, check32, 2))),
                    Frames.join(Frames.hex(Frames.ACK, 1), Frames.hex(Frames.ACK, 2)));
                DUE.same("the other CHECK", Rig.toReceiver(DUE, x, Frames.join(Frames.bytes(Frames.DATA, 2, check32),
                    Frames.packet(Frames.W, !check32, 3), Frames.times(2, 0))), Frames.hex(Frames.RPOS, 2));
            }
        }
    }
}
