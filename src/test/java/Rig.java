/** Brings objects to where a test wants them, through the face alone. */
final class Rig {
    private Rig() {
    }

    static FrameFerry started(boolean check32, int size) {
        FrameFerry x = new FrameFerry();
        x.start(check32, size);
        return x;
    }

    /** Started, with nothing in DOWN, so that a test has the receiver to itself. */
    static FrameFerry waiting(boolean check32) {
        FrameFerry x = started(check32, 32);
        x.lose(true, 0, 3000);
        return x;
    }

    static void feed(FrameFerry x, int... bytes) {
        for (int at = 0; at < bytes.length; at += 16) {
            int many = Math.min(16, bytes.length - at);
            int[] four = new int[4];
            for (int i = 0; i < many; i++) {
                four[i / 4] |= bytes[at + i] << 24 - 8 * (i % 4);
            }
            x.feed(many, four[0], four[1], four[2], four[3]);
        }
    }

    static FrameFerry withFile(int letter, int... bytes) {
        FrameFerry x = new FrameFerry();
        x.open(letter);
        feed(x, bytes);
        return x;
    }

    /** A sender in this STATE: its one file is letter 2, the bytes 0 .. 99, in packets of 8 with CHECK 16. */
    static FrameFerry inState(int state) {
        FrameFerry x = withFile(2, Frames.rising(0, 100));
        x.start(false, 8);
        int[][] answers = {Frames.hex(Frames.RINIT, 0), Frames.hex(Frames.RPOS, 0), Frames.hex(Frames.RPOS, 100),
            Frames.hex(Frames.RINIT, 0), Frames.hex(Frames.FIN, 0)};
        for (int i = 0; i < state; i++) {
            put(x, false, answers[i]);
            x.sender();
        }
        x.lose(true, 0, 3000);
        return x;
    }

    /** A receiver that has just opened this file, and got nothing of it. */
    static FrameFerry opened(Due due, int letter, int length) {
        FrameFerry x = waiting(false);
        due.same("RPOS", toReceiver(due, x, Frames.name(letter, length, false)), Frames.hex(Frames.RPOS, 0));
        return x;
    }

    /** A receiver that has this file open, with these bytes of it (at most 64). */
    static FrameFerry holding(Due due, int letter, int length, int... bytes) {
        FrameFerry x = opened(due, letter, length);
        toReceiver(due, x, Frames.data(0, Frames.E, bytes));
        due.is("POSITION", x.count(5), bytes.length);
        return x;
    }

    /**
     * A receiver that got the bytes 0, 1, 2 .. of this file, so many, from the sender itself, and has it
     * open still: EOF was lost on its way.
     */
    static FrameFerry reached(int letter, int position) {
        FrameFerry x = withFile(letter, Frames.rising(0, position));
        x.start(false, 64);
        rounds(x, 1);
        for (int i = 0; i < 3 && x.count(0) != 3; i++) {
            x.receiver();
            x.sender();
        }
        int eof = Frames.bytes(Frames.EOF, position, false).length;
        x.lose(true, x.count(6) - eof, eof);
        x.receiver();
        return x;
    }

    /** Both sides take turns: the receiver and the sender, so many times. */
    static void rounds(FrameFerry x, int many) {
        for (int i = 0; i < many; i++) {
            x.receiver();
            x.sender();
        }
    }

    /** Fills DOWN or UP to its last byte: a sender in STATE 0, a receiver that is not DONE. */
    static void fill(FrameFerry x, boolean down) {
        for (int i = 0; i < 150; i++) {
            x.late(down);
        }
    }

    /**
     * Makes a pipe hold just these bytes: bytes are got by late, cut, and turned bit by bit. DOWN wants
     * a sender that repeats itself (not SENDING, not DONE), UP a receiver that is not DONE. What late
     * sends is always the same, so it is looked at once: an object has no more than 512 calls.
     */
    static void put(FrameFerry x, boolean down, int... bytes) {
        x.lose(down, 0, 3000);
        int each = bytes.length == 0 ? 0 : x.late(down);
        for (int has = each; has < bytes.length && each > 0; has += each) {
            x.late(down);
        }
        x.lose(down, bytes.length, 3000);
        int[] there = new int[each];
        for (int k = 0; k < bytes.length && each > 0; k++) {
            there[k % each] = k < each ? x.pipe(down, k) : there[k % each];
            turn(x, down, k, there[k % each] ^ bytes[k]);
        }
    }

    private static void turn(FrameFerry x, boolean down, int k, int bits) {
        for (int bit = 0; bit < 8; bit++) {
            if ((bits >> bit & 1) != 0) {
                x.flip(down, k, bit);
            }
        }
    }

    /** The receiver reads these bytes: what it sends, cut off from UP. */
    static int[] toReceiver(Due due, FrameFerry x, int... bytes) {
        put(x, true, bytes);
        x.lose(false, 0, 3000);
        int many = x.receiver();
        int[] sent = Look.pipe(x, false);
        due.is("receiver() in bytes", many, sent.length);
        x.lose(false, 0, 3000);
        return sent;
    }

    /** The sender reads these bytes: what it sends, cut off from DOWN. */
    static int[] toSender(Due due, FrameFerry x, int... bytes) {
        put(x, false, bytes);
        x.lose(true, 0, 3000);
        int many = x.sender();
        int[] sent = Look.pipe(x, true);
        due.is("sender() in bytes", many, sent.length);
        x.lose(true, 0, 3000);
        return sent;
    }
}
