import java.util.Arrays;

public final class WhatItIsTest {
    private static final Due DUE = new Due("What it is");
    private static final int[] FILE = Frames.rising(10, 40);

    public static void main(String[] args) {
        DUE.test("Files sent over a bad line as the public ZMODEM rules have it, in part", WhatItIsTest::publicRules);
        DUE.test("headers in hexadecimal digits or in bytes", WhatItIsTest::headers);
        DUE.test("packets of data with checks behind them", WhatItIsTest::packets);
        DUE.test("bytes escaped", WhatItIsTest::escaped);
        DUE.test("a sender and a receiver that ask again", WhatItIsTest::askAgain);
        DUE.test("go back to where something was lost", WhatItIsTest::goBack);
        DUE.test("go on with what was there before a crash", WhatItIsTest::goOn);
        DUE.test("An object is used for at most 512 calls after it has been made", WhatItIsTest::calls);
        DUE.unseen("what later calls answer is free", "no answer would be a wrong one");
        DUE.end();
    }

    private static int[] text(String row) {
        return row.chars().toArray();
    }

    private static FrameFerry begun() {
        FrameFerry x = Rig.withFile(3, FILE);
        x.start(true, 8);
        return x;
    }

    /** Headers that other programs send, as anyone can see them on a line. */
    private static void publicRules() {
        String[] known = {"**\u0018B00000000000000", "**\u0018B0100000023be50", "**\u0018B0100000063f694",
            "**\u0018B0900000000a87c"};
        for (String row : known) {
            FrameFerry x = Rig.waiting(false);
            Rig.toReceiver(DUE, x, text(row));
            DUE.is("a good HEADER", x.count(8), 1);
            DUE.is("no BAD one", x.count(9), 0);
        }
        DUE.same("FIN", Rig.toReceiver(DUE, Rig.waiting(false), text("**\u0018B0800000000022d")),
            text("**\u0018B0800000000022d\r\n"));
    }

    private static void headers() {
        FrameFerry x = begun();
        DUE.same("in digits", Arrays.copyOf(Look.pipe(x, true), 4), 42, 42, 24, 66);
        Rig.rounds(x, 1);
        DUE.same("in bytes", Arrays.copyOf(Look.pipe(x, true), 3), 42, 24, 67);
    }

    private static void packets() {
        FrameFerry x = begun();
        Rig.rounds(x, 2);
        DUE.is("a bit of the first packet", x.flip(true, 14, 0), true);
        DUE.is("RPOS", x.receiver(), 20);
        DUE.is("a BAD one", x.count(11), 1);
        DUE.is("POSITION", x.count(5), 0);
    }

    private static void escaped() {
        int[] bytes = {24, 17, 19, 16, 147, 145, 144};
        FrameFerry x = Rig.withFile(3, bytes);
        x.start(true, 8);
        Rig.rounds(x, 2);
        DUE.same("24 before each of them", Arrays.copyOfRange(Look.pipe(x, true), 12, 28),
            24, 88, 24, 81, 24, 83, 24, 80, 24, 211, 24, 209, 24, 208, 24, Frames.E);
        x.receiver();
        DUE.same("what it got", Look.got(x, 3), bytes);
    }

    private static void askAgain() {
        FrameFerry x = begun();
        Rig.rounds(x, 1);
        int[] file = Look.pipe(x, true);
        x.flip(true, 5, 5);
        x.receiver();
        DUE.same("the receiver asks", Look.pipe(x, false), Frames.hex(Frames.NAK, 0));
        x.sender();
        DUE.same("the sender sends it again", Look.pipe(x, true), file);
        FrameFerry y = begun();
        y.lose(true, 0, 3000);
        DUE.is("the receiver has heard nothing", y.receiver(), 0);
        y.late(true);
        DUE.same("the sender asks again", Look.pipe(y, true), Frames.hex(Frames.RQINIT, 0));
    }

    private static void goBack() {
        FrameFerry x = begun();
        Rig.rounds(x, 2);
        int first = 12 + Frames.packet(Frames.G, true, Arrays.copyOf(FILE, 8)).length;
        x.lose(true, first + 3, 1);
        x.receiver();
        DUE.same("the receiver has the first packet", Look.got(x, 3), Arrays.copyOf(FILE, 8));
        x.sender();
        int[] data = Frames.bytes(Frames.DATA, 8, true);
        DUE.same("the sender goes back", Arrays.copyOf(Look.pipe(x, true), data.length), data);
        Rig.rounds(x, 4);
        DUE.same("all of it comes", Look.got(x, 3), FILE);
        DUE.is("DONE", x.count(0), 5);
    }

    private static void goOn() {
        FrameFerry x = begun();
        Rig.rounds(x, 2);
        x.receiver();
        x.crash();
        x.start(true, 8);
        Rig.rounds(x, 1);
        x.receiver();
        DUE.same("from 32 on", Look.pipe(x, false), Frames.hex(Frames.RPOS, 32));
        x.sender();
        Rig.rounds(x, 2);
        DUE.same("all of it comes", Look.got(x, 3), FILE);
        DUE.is("DONE", x.count(0), 5);
    }

    /** Four files of 300 bytes, and then every byte that there are calls left for: the last call is the 512th. */
    private static void calls() {
        FrameFerry x = new FrameFerry();
        for (int letter = 0; letter < 4; letter++) {
            x.open(letter);
            Rig.feed(x, Frames.rising(letter, 300));
        }
        x.start(true, 64);
        int used = 4 + 4 * 19 + 1;
        for (int i = 0; i < 14; i++) {
            x.receiver();
            DUE.is("the sender goes on", x.sender() > 0, true);
            used += 2;
        }
        DUE.is("DONE", x.count(0), 5);
        used++;
        for (int i = 0; used < 512; i++, used++) {
            int letter = i % 4;
            int k = 299 - i / 4;
            DUE.is("byte " + k + " of " + letter, x.got(letter, k), letter + k & 255);
        }
    }
}
