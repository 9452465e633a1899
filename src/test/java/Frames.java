import java.util.Arrays;
import java.util.zip.CRC32;

/** Headers and packets built anew from the document's words, bit by bit, to compare with. */
final class Frames {
    static final int RQINIT = 0;
    static final int RINIT = 1;
    static final int ACK = 3;
    static final int FILE = 4;
    static final int SKIP = 5;
    static final int NAK = 6;
    static final int FIN = 8;
    static final int RPOS = 9;
    static final int DATA = 10;
    static final int EOF = 11;
    static final int E = 104;
    static final int G = 105;
    static final int Q = 106;
    static final int W = 107;

    private Frames() {
    }

    static int check16(int[] bytes) {
        int rest = 0;
        for (int value : bytes) {
            rest ^= value << 8;
            for (int bit = 0; bit < 8; bit++) {
                rest = (rest & 0x8000) != 0 ? (rest << 1 ^ 0x1021) & 0xffff : rest << 1;
            }
        }
        return rest;
    }

    static int[] check(int[] bytes, boolean check32) {
        if (!check32) {
            int check = check16(bytes);
            return new int[] {check >> 8, check & 255};
        }
        CRC32 crc = new CRC32();
        for (int value : bytes) {
            crc.update(value);
        }
        int check = (int) crc.getValue();
        return new int[] {check & 255, check >> 8 & 255, check >> 16 & 255, check >>> 24};
    }

    static int[] escaped(int[] bytes) {
        int[] row = new int[2 * bytes.length];
        int many = 0;
        for (int value : bytes) {
            boolean turn = value == 16 || value == 17 || value == 19 || value == 24
                || value == 144 || value == 145 || value == 147;
            if (turn) {
                row[many++] = 24;
            }
            row[many++] = turn ? value ^ 64 : value;
        }
        return Arrays.copyOf(row, many);
    }

    static int[] headerBytes(int type, int p) {
        return new int[] {type, p & 255, p >> 8 & 255, p >> 16 & 255, p >>> 24};
    }

    /** A header in hexadecimal digits without the 13 10 behind it. */
    static int[] digits(int type, int p) {
        int[] five = headerBytes(type, p);
        int[] row = {42, 42, 24, 66};
        for (int value : join(five, check(five, false))) {
            String two = String.format("%02x", value);
            row = join(row, new int[] {two.charAt(0), two.charAt(1)});
        }
        return row;
    }

    static int[] hex(int type, int p) {
        return join(digits(type, p), new int[] {13, 10});
    }

    static int[] bytes(int type, int p, boolean check32) {
        int[] five = headerBytes(type, p);
        return join(new int[] {42, 24, check32 ? 67 : 65}, escaped(join(five, check(five, check32))));
    }

    static int[] packet(int end, boolean check32, int... data) {
        int[] check = check(join(data, new int[] {end}), check32);
        return join(escaped(data), new int[] {24, end}, escaped(check));
    }

    static int[] name(int letter, int length, boolean check32) {
        return join(bytes(FILE, 0, check32), packet(W, check32, 97 + letter, length >> 8, length & 255));
    }

    /** DATA and one packet, with CHECK 16. */
    static int[] data(int p, int end, int... bytes) {
        return join(bytes(DATA, p, false), packet(end, false, bytes));
    }

    static int[] join(int[]... rows) {
        int many = 0;
        for (int[] row : rows) {
            many += row.length;
        }
        int[] all = new int[many];
        int at = 0;
        for (int[] row : rows) {
            System.arraycopy(row, 0, all, at, row.length);
            at += row.length;
        }
        return all;
    }

    static int[] times(int many, int value) {
        int[] row = new int[many];
        Arrays.fill(row, value);
        return row;
    }

    /** Many bytes that go up from first on, round at 256. */
    static int[] rising(int first, int many) {
        int[] row = new int[many];
        for (int i = 0; i < many; i++) {
            row[i] = first + i & 255;
        }
        return row;
    }
}
