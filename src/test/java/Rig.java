/** Brings objects to where a test wants them, through the face alone. */
final class Rig {
    private Rig() {
    }

    static FrameFerry started(boolean check32, int size) {
        FrameFerry x = new FrameFerry();
        x.start(check32, size);
        return x;
    }

    /** Started, with nothing in DOWN, so that a test has the receiver to itself. */
    static FrameFerry waiting(boolean check32) {
        FrameFerry x = started(check32, 32);
        x.lose(true, 0, 3000);
        return x;
    }

    static void feed(FrameFerry x, int... bytes) {
        for (int at = 0; at < bytes.length; at += 16) {
            int many = Math.min(16, bytes.length - at);
            int[] four = new int[4];
            for (int i = 0; i < many; i++) {
                four[i / 4] |= bytes[at + i] << 24 - 8 * (i % 4);
            }
            x.feed(many, four[0], four[1], four[2], four[3]);
        }
    }

    static FrameFerry withFile(int letter, int... bytes) {
        FrameFerry x = new FrameFerry();
        x.open(letter);
        feed(x, bytes);
        return x;
    }

    /** A sender in this STATE: its one file is letter 2, the bytes 0 .. 99, in packets of 8 with CHECK 16. */
    static FrameFerry inState(int state) {
        FrameFerry x = withFile(2, Frames.rising(0, 100));
        x.start(false, 8);
        int[][] answers = {Frames.hex(Frames.RINIT, 0), Frames.hex(Frames.RPOS, 0), Frames.hex(Frames.RPOS, 100),
            Frames.hex(Frames.RINIT, 0), Frames.hex(Frames.FIN, 0)};
        for (int i = 0; i < state; i++) {
            put(x, false, answers[i]);
            x.sender();
        }
        x.lose(true, 0, 3000);
        return x;
    }

    /** A receiver that has just opened this file, and got nothing of it. */
    static FrameFerry opened(Due due, int letter, int length) {
        FrameFerry x = waiting(false);
        due.same("RPOS", toReceiver(due, x, Frames.name(letter, length, false)), Frames.hex(Frames.RPOS, 0));
        return x;
    }

    /** A receiver that has this file open, with these bytes of it (at most 64). */
    static FrameFerry holding(Due due, int letter, int length, int... bytes) {
        FrameFerry x = opened(due, letter, length);
        toReceiver(due, x, Frames.data(0, Frames.E, bytes));
        due.is("POSITION", x.count(5), bytes.length);
        return x;
    }

    /** Both sides take turns: the receiver and the sender, so many times. */
    static void rounds(FrameFerry x, int many) {
        for (int i = 0; i < many; i++) {
            x.receiver();
            x.sender();
        }
    }

    /** Fills DOWN or UP to its last byte: a sender in STATE 0, a receiver that is not DONE. */
    static void fill(FrameFerry x, boolean down) {
        for (int i = 0; i < 150; i++) {
            x.late(down);
        }
    }

    /**
     * Makes a pipe hold just these bytes: bytes are got by late, cut, and turned bit by bit. DOWN wants
     * a sender that repeats itself (not SENDING, not DONE), UP a receiver that is not DONE.
     */
    static void put(FrameFerry x, boolean down, int... bytes) {
        x.lose(down, 0, 3000);
        for (int i = 0; i <= bytes.length && x.count(down ? 6 : 7) < bytes.length; i++) {
            x.late(down);
        }
        x.lose(down, bytes.length, 3000);
        for (int k = 0; k < bytes.length; k++) {
            int wrong = x.pipe(down, k) ^ bytes[k];
            for (int bit = 0; bit < 8; bit++) {
                if ((wrong >> bit & 1) != 0) {
                    x.flip(down, k, bit);
                }
            }
        }
    }

    /** The receiver reads these bytes: what it sends, cut off from UP. */
    static int[] toReceiver(Due due, FrameFerry x, int... bytes) {
        put(x, true, bytes);
        x.lose(false, 0, 3000);
        int many = x.receiver();
        int[] sent = Look.pipe(x, false);
        due.is("receiver() in bytes", many, sent.length);
        x.lose(false, 0, 3000);
        return sent;
    }

    /** The sender reads these bytes: what it sends, cut off from DOWN. */
    static int[] toSender(Due due, FrameFerry x, int... bytes) {
        put(x, false, bytes);
        x.lose(true, 0, 3000);
        int many = x.sender();
        int[] sent = Look.pipe(x, true);
        due.is("sender() in bytes", many, sent.length);
        x.lose(true, 0, 3000);
        return sent;
    }
}
