import java.util.Random;

/** Whole runs over lines that turn and lose bytes: what is got is always what was sent, as far as it goes. */
public final class TransferTest {
    private static final Due DUE = new Due();
    private static final int BAD_ROUNDS = 16;
    private static final int GOOD_ROUNDS = 60;
    private static final int LOOKS = 25;

    public static void main(String[] args) {
        for (int seed = 0; seed < 600; seed++) {
            run(new Random(seed), seed);
        }
        for (int seed = 0; seed < 300; seed++) {
            anyCalls(new Random(seed), seed);
        }
        DUE.end();
    }

    private static void run(Random random, int seed) {
        FrameFerry x = new FrameFerry();
        int[][] sent = new int[26][];
        int files = random.nextInt(5);
        for (int i = 0; i < files; i++) {
            int letter = 6 * i + random.nextInt(6);
            sent[letter] = new int[random.nextInt(4) == 0 ? 300 : random.nextInt(301)];
            for (int k = 0; k < sent[letter].length; k++) {
                sent[letter][k] = random.nextBoolean() ? random.nextInt(256) : 16 + random.nextInt(9);
            }
            x.open(letter);
            Rig.feed(x, sent[letter]);
        }
        int size = 8 + random.nextInt(57);
        badLine(random, x, size, sent, seed);
        goodLine(x, random.nextBoolean(), size, seed);
        for (int letter = 0; letter < 26; letter++) {
            whole(random, x, letter, sent[letter] == null ? new int[0] : sent[letter]);
        }
    }

    /** Bytes here and there, its last one, and no more: an object has 512 calls, and that is not enough for all. */
    private static void whole(Random random, FrameFerry x, int letter, int[] want) {
        DUE.is("behind the last byte of " + letter, x.got(letter, want.length), FrameFerry.NONE);
        for (int i = 0; i < LOOKS && i < want.length; i++) {
            int k = i == 0 ? want.length - 1 : random.nextInt(want.length);
            DUE.is("byte " + k + " of " + letter, x.got(letter, k), want[k]);
        }
    }

    private static void badLine(Random random, FrameFerry x, int size, int[][] sent, int seed) {
        boolean check32 = random.nextBoolean();
        x.start(check32, size);
        for (int round = 0; round < BAD_ROUNDS; round++) {
            spoil(random, x, check32);
            if (x.receiver() == 0 && random.nextInt(3) == 0) {
                x.late(false);
            }
            prefixes(x, sent, seed);
            spoil(random, x, check32);
            if (x.sender() == 0 && random.nextInt(3) == 0) {
                x.late(true);
            }
            if (random.nextInt(20) == 0) {
                x.crash();
            }
            if (random.nextInt(20) == 0) {
                x.start(check32, size);
            }
        }
    }

    /** Over a good line all goes on from what is there, and comes to its end without being late. */
    private static void goodLine(FrameFerry x, boolean check32, int size, int seed) {
        x.start(check32, size);
        int moved = 1;
        for (int round = 0; round < GOOD_ROUNDS && moved > 0; round++) {
            moved = x.receiver() + x.sender();
        }
        DUE.is("seed " + seed + ": STATE", x.count(0), 5);
        DUE.is("seed " + seed + ": DONE", x.count(3), 1);
        DUE.is("seed " + seed + ": BAD HEADERS", x.count(9), 0);
        DUE.is("seed " + seed + ": BAD PACKETS", x.count(11), 0);
    }

    /**
     * At most four bytes are lost at once: a whole packet has more, and without one no check would tell.
     * With CHECK 16, which is begun with 0, none are lost in DOWN: it does not tell of a lost 24 before an
     * END, nor of a lost 0 at the beginning.
     */
    private static void spoil(Random random, FrameFerry x, boolean check32) {
        boolean down = random.nextBoolean();
        int many = x.count(down ? 6 : 7);
        if (many == 0 || random.nextBoolean()) {
            return;
        }
        if (random.nextBoolean() || down && !check32) {
            x.flip(down, random.nextInt(many), random.nextInt(8));
        } else {
            x.lose(down, random.nextInt(many), 1 + random.nextInt(4));
        }
    }

    private static void prefixes(FrameFerry x, int[][] sent, int seed) {
        int letter = x.count(4);
        if (letter == FrameFerry.NONE) {
            return;
        }
        DUE.is("seed " + seed + ": a letter that was sent", sent[letter] != null, true);
        int at = x.count(5) - 1;
        if (sent[letter] != null && at >= 0) {
            DUE.is("seed " + seed + ": the last byte", x.got(letter, at), sent[letter][at]);
        }
    }

    /** Any calls with any numbers: nothing but the exceptions of the document ever comes out. */
    private static void anyCalls(Random random, int seed) {
        FrameFerry x = new FrameFerry();
        for (int i = 0; i < 490; i++) {
            try {
                call(random, x);
            } catch (IllegalArgumentException | IllegalStateException e) {
                continue;
            } catch (RuntimeException e) {
                DUE.tell("seed " + seed + ", call " + i + " threw " + e);
            }
        }
        int[] counts = Look.counts(x);
        DUE.is("STATE", counts[0] >= 0 && counts[0] <= 5, true);
        DUE.is("DOWN", counts[6] >= 0 && counts[6] <= 3000, true);
        DUE.is("UP", counts[7] >= 0 && counts[7] <= 3000, true);
    }

    private static int any(Random random, int limit) {
        switch (random.nextInt(12)) {
            case 0: return random.nextInt();
            case 1: return random.nextBoolean() ? Integer.MAX_VALUE : Integer.MIN_VALUE;
            case 2: return -1;
            default: return random.nextInt(limit + 1);
        }
    }

    private static void call(Random random, FrameFerry x) {
        boolean side = random.nextBoolean();
        switch (random.nextInt(17)) {
            case 0: x.open(any(random, 26)); break;
            case 1: x.feed(any(random, 16), random.nextInt(), random.nextInt(), random.nextInt(), 0); break;
            case 2: x.clear(); break;
            case 3: x.start(side, any(random, 64)); break;
            case 4: case 5: case 6: x.sender(); break;
            case 7: case 8: case 9: x.receiver(); break;
            case 10: x.late(side); break;
            case 11: x.crash(); break;
            case 12: x.flip(side, any(random, 60), any(random, 7)); break;
            case 13: x.lose(side, any(random, 60), any(random, 9)); break;
            case 14: x.pipe(side, any(random, 60)); break;
            case 15: x.got(any(random, 25), any(random, 300)); break;
            default: x.count(any(random, 11)); break;
        }
    }
}
