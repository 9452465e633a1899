/** Brings objects to where a test wants them, through the face alone. */
final class Rig {
    private Rig() {
    }

    static FrameFerry started(boolean check32, int size) {
        FrameFerry x = new FrameFerry();
        x.start(check32, size);
        return x;
    }

    /** Started, with nothing in DOWN, so that a test has the receiver to itself. */
    static FrameFerry waiting(boolean check32) {
        FrameFerry x = started(check32, 32);
        x.lose(true, 0, 3000);
        return x;
    }

    static void feed(FrameFerry x, int... bytes) {
        for (int at = 0; at < bytes.length; at += 16) {
            int many = Math.min(16, bytes.length - at);
            int[] four = new int[4];
            for (int i = 0; i < many; i++) {
                four[i / 4] |= bytes[at + i] << 24 - 8 * (i % 4);
            }
            x.feed(many, four[0], four[1], four[2], four[3]);
        }
    }

    static FrameFerry withFile(int letter, int... bytes) {
        FrameFerry x = new FrameFerry();
        x.open(letter);
        feed(x, bytes);
        return x;
    }

    /**
     * Makes a pipe hold just these bytes: bytes are got by late, cut, and turned bit by bit. DOWN wants
     * a sender that repeats itself (not SENDING, not DONE), UP a receiver that is not DONE.
     */
    static void put(FrameFerry x, boolean down, int... bytes) {
        x.lose(down, 0, 3000);
        for (int i = 0; i <= bytes.length && x.count(down ? 6 : 7) < bytes.length; i++) {
            x.late(down);
        }
        x.lose(down, bytes.length, 3000);
        for (int k = 0; k < bytes.length; k++) {
            int wrong = x.pipe(down, k) ^ bytes[k];
            for (int bit = 0; bit < 8; bit++) {
                if ((wrong >> bit & 1) != 0) {
                    x.flip(down, k, bit);
                }
            }
        }
    }

    /** The receiver reads these bytes: what it sends, cut off from UP. */
    static int[] toReceiver(Due due, FrameFerry x, int... bytes) {
        put(x, true, bytes);
        x.lose(false, 0, 3000);
        int many = x.receiver();
        int[] sent = Look.pipe(x, false);
        due.is("receiver() in bytes", many, sent.length);
        x.lose(false, 0, 3000);
        return sent;
    }

    /** The sender reads these bytes: what it sends, cut off from DOWN. */
    static int[] toSender(Due due, FrameFerry x, int... bytes) {
        put(x, false, bytes);
        x.lose(true, 0, 3000);
        int many = x.sender();
        int[] sent = Look.pipe(x, true);
        due.is("sender() in bytes", many, sent.length);
        x.lose(true, 0, 3000);
        return sent;
    }
}
