import java.util.Arrays;

/** The checks that the class writes, against a division done bit by bit as the document tells it. */
public final class TermChecksTest {
    private static final Due DUE = new Due("CHECK 16");
    private static final int[] DIGITS = {'1', '2', '3', '4', '5', '6', '7', '8', '9'};

    public static void main(String[] args) {
        DUE.test("CHECK 16: the remainder of the bytes, highest bits first, with 16 bits 0 behind, by x^16 + x^12 + x^5 + 1",
            TermChecksTest::check16);
        DUE.test("begun with 0", TermChecksTest::begunWith0);
        DUE.test("CHECK 32: by x^32 + x^26 + x^23 + x^22 + x^16 + x^12 + x^11 + x^10 + x^8 + x^7 + x^5 + x^4 + x^2 + x + 1,"
            + " lowest bits first", TermChecksTest::check32);
        DUE.test("begun with all bits 1", TermChecksTest::begunWithOnes);
        DUE.test("all turned round in the end", TermChecksTest::turnedRound);
        DUE.end();
    }

    /** The remainder of a row of bits by x^degree and the lower powers, the row followed by so many zeros. */
    private static long remainder(boolean[] bits, int degree, int... powers) {
        long by = 1L << degree;
        for (int power : powers) {
            by |= 1L << power;
        }
        long rest = 0;
        for (int i = 0; i < bits.length + degree; i++) {
            rest = rest << 1 | (i < bits.length && bits[i] ? 1 : 0);
            rest = (rest >> degree & 1) != 0 ? rest ^ by : rest;
        }
        return rest;
    }

    private static boolean[] bits(int[] bytes, boolean highestFirst) {
        boolean[] row = new boolean[8 * bytes.length];
        for (int i = 0; i < row.length; i++) {
            int bit = highestFirst ? 7 - i % 8 : i % 8;
            row[i] = (bytes[i / 8] >> bit & 1) != 0;
        }
        return row;
    }

    private static int divided16(int... bytes) {
        return (int) remainder(bits(bytes, true), 16, 12, 5, 0);
    }

    private static int divided32(boolean turned, int... bytes) {
        boolean[] row = bits(bytes, false);
        for (int i = 0; i < 32; i++) {
            row[i] = !row[i];
        }
        long rest = remainder(row, 32, 26, 23, 22, 16, 12, 11, 10, 8, 7, 5, 4, 2, 1, 0);
        int lowestFirst = Integer.reverse((int) rest);
        return turned ? ~lowestFirst : lowestFirst;
    }

    /** The bytes behind the END of the one packet that the class sends of a file. */
    private static int[] checkOf(boolean check32, int... bytes) {
        FrameFerry x = Rig.withFile(3, bytes);
        x.start(check32, 64);
        Rig.toSender(DUE, x, Frames.hex(Frames.RINIT, check32 ? 32 : 0));
        int[] sent = Rig.toSender(DUE, x, Frames.hex(Frames.RPOS, 0));
        int from = Frames.bytes(Frames.DATA, 0, check32).length + Frames.escaped(bytes).length + 2;
        int to = sent.length - Frames.bytes(Frames.EOF, bytes.length, check32).length;
        int[] check = new int[to - from];
        int many = 0;
        for (int i = from; i < to; i++) {
            check[many++] = sent[i] == 24 ? sent[++i] ^ 64 : sent[i];
        }
        return Arrays.copyOf(check, many);
    }

    private static int[] withEnd(int... bytes) {
        return Frames.join(bytes, new int[] {Frames.E});
    }

    private static void check16() {
        DUE.is("of the nine digits, as known", divided16(DIGITS), 0x31c3);
        for (int many = 0; many <= 64; many++) {
            int[] bytes = Frames.rising(3 * many, many);
            int check = divided16(withEnd(bytes));
            DUE.same("of " + many, checkOf(false, bytes), check >> 8, check & 255);
        }
    }

    private static void begunWith0() {
        DUE.same("RQINIT is all zeros, and so is its check", Look.pipe(Rig.started(false, 8), true),
            42, 42, 24, 66, 48, 48, 48, 48, 48, 48, 48, 48, 48, 48, 48, 48, 48, 48, 13, 10);
        DUE.same("zeros before change nothing", checkOf(false, 0, 0, 0, 7), checkOf(false, 7));
        FrameFerry x = withoutLead(false);
        DUE.is("behind its own check it is 0 again, so that two PACKETS are read as one", x.count(11), 0);
        int[] check = Frames.check(new int[] {65, 66, Frames.G}, false);
        DUE.same("what is between is read, too", Look.got(x, 3), 65, 66, Frames.G, check[0], check[1], 67, 68);
    }

    /** A receiver that has read two PACKETS with two bytes each, the 24 before the first one's END being lost. */
    private static FrameFerry withoutLead(boolean check32) {
        FrameFerry x = Rig.withFile(3, 65, 66, 67, 68);
        x.start(check32, 2);
        Rig.rounds(x, 2);
        int at = Frames.bytes(Frames.DATA, 0, check32).length + 2;
        DUE.is("the byte that is lost", x.pipe(true, at), 24);
        x.lose(true, at, 1);
        x.receiver();
        return x;
    }

    private static void check32() {
        DUE.is("of the nine digits, as known", divided32(true, DIGITS), 0xcbf43926);
        for (int many = 3; many <= 64; many++) {
            int[] bytes = Frames.rising(3 * many, many);
            int check = divided32(true, withEnd(bytes));
            DUE.same("of " + many, checkOf(true, bytes), check & 255, check >> 8 & 255, check >> 16 & 255, check >>> 24);
        }
    }

    private static void begunWithOnes() {
        DUE.same("of three zeros and E", checkOf(true, 0, 0, 0), Frames.check(withEnd(0, 0, 0), true));
        DUE.is("zeros before change it", Arrays.equals(checkOf(true, 0, 0, 0), checkOf(true, 0, 0, 0, 0)), false);
        DUE.same("of E alone", checkOf(true), Frames.check(withEnd(), true));
        FrameFerry x = withoutLead(true);
        DUE.is("behind its own check it is not as at the beginning", x.count(11), 1);
        DUE.is("POSITION", x.count(5), 0);
    }

    private static void turnedRound() {
        int bare = divided32(false, withEnd(DIGITS));
        int[] check = checkOf(true, DIGITS);
        for (int i = 0; i < 4; i++) {
            DUE.is("byte " + i, check[i], ~(bare >> 8 * i) & 255);
        }
    }
}
