/**
 * Files sent over a bad line by a part of the public ZMODEM rules: a sender, a receiver and the two
 * pipes between them, whose bytes a caller may look at, turn round and lose.
 */
public final class FrameFerry {
    public static final int NONE = -1;

    private static final int PIPE_LIMIT = 3000;
    private static final int FILE_LIMIT = 300;
    private static final int PACKET_LIMIT = 64;
    private static final int FEED_LIMIT = 16;
    /** TYPE and P, without the check behind them. */
    private static final int HEADER_BYTES = 5;
    private static final int SENT_FILES = 4;
    private static final int LETTERS = 26;
    private static final int PACKETS_AT_ONCE = 4;
    private static final int FIRST_SIZE = 32;

    private static final int STAR = 42;
    private static final int ESCAPE = 24;
    private static final int HEX_FORM = 66;
    private static final int BYTES_16_FORM = 65;
    private static final int BYTES_32_FORM = 67;
    private static final int LETTER_A = 97;
    private static final int LETTER_O = 79;

    private static final int RQINIT = 0;
    private static final int RINIT = 1;
    private static final int ACK = 3;
    private static final int FILE = 4;
    private static final int SKIP = 5;
    private static final int NAK = 6;
    private static final int FIN = 8;
    private static final int RPOS = 9;
    private static final int DATA = 10;
    private static final int EOF = 11;

    private static final int END_E = 104;
    private static final int END_G = 105;
    private static final int END_Q = 106;
    private static final int END_W = 107;

    private static final int CAN_CHECK_32 = 32;

    private final Sender sending;
    private final Receiver receiving;

    public FrameFerry() {
        sending = new Sender();
        receiving = new Receiver();
    }

    public int open(int letter) throws IllegalArgumentException, IllegalStateException {
        if (!isLetter(letter) || sending.hasFile(letter)) {
            throw new IllegalArgumentException();
        }
        if (sending.fileCount >= SENT_FILES || sending.state != Sender.DONE) {
            throw new IllegalStateException();
        }
        sending.addFile(letter);
        return sending.fileCount;
    }

    public int feed(int many, int a, int b, int c, int d)
            throws IllegalArgumentException, IllegalStateException {
        if (many < 0 || many > FEED_LIMIT) {
            throw new IllegalArgumentException();
        }
        StoredFile last = sending.fileAt(sending.fileCount - 1);
        if (last == null || last.length + many > FILE_LIMIT || sending.state != Sender.DONE) {
            throw new IllegalStateException();
        }
        for (int i = 0; i < many; i++) {
            int four = i < 4 ? a : i < 8 ? b : i < 12 ? c : d;
            last.append(four >>> (24 - 8 * (i & 3)));
        }
        return last.length;
    }

    public int clear() throws IllegalStateException {
        if (sending.state != Sender.DONE) {
            throw new IllegalStateException();
        }
        return sending.dropFiles();
    }

    public void start(boolean check32, int size) throws IllegalArgumentException {
        if (size < 1 || size > PACKET_LIMIT) {
            throw new IllegalArgumentException();
        }
        receiving.begin(check32);
        sending.begin(size);
    }

    public int sender() {
        int before = sending.line.offered;
        sending.readAll(receiving.line);
        sending.sendPackets();
        return sending.line.offered - before;
    }

    public int receiver() {
        int before = receiving.line.offered;
        receiving.readAll(sending.line);
        return receiving.line.offered - before;
    }

    public int late(boolean sender) {
        Pipe line = pipeOf(sender);
        int before = line.offered;
        if (sender) {
            sending.sendLate();
        } else {
            receiving.sendLate();
        }
        return line.offered - before;
    }

    public void crash() {
        receiving.beginAnew();
    }

    public boolean flip(boolean down, int at, int bit) throws IllegalArgumentException {
        if (bit < 0 || bit > 7) {
            throw new IllegalArgumentException();
        }
        return pipeOf(down).turnBit(at, bit);
    }

    public int lose(boolean down, int at, int many) throws IllegalArgumentException {
        if (at < 0 || many < 0) {
            throw new IllegalArgumentException();
        }
        return pipeOf(down).drop(at, many);
    }

    public int pipe(boolean down, int k) {
        return pipeOf(down).byteAt(k);
    }

    public int got(int letter, int k) throws IllegalArgumentException {
        if (!isLetter(letter)) {
            throw new IllegalArgumentException();
        }
        StoredFile file = receiving.files[letter];
        return file == null ? NONE : file.byteAt(k);
    }

    public int count(int what) throws IllegalArgumentException {
        switch (what) {
            case 0: return sending.state;
            case 1: return sending.fileNumber();
            case 2: return sending.place;
            case 3: return receiving.done ? 1 : 0;
            case 4: return receiving.openFile == null ? NONE : receiving.openFile.letter;
            case 5: return receiving.openFile == null ? NONE : receiving.openFile.length;
            case 6: return sending.line.length;
            case 7: return receiving.line.length;
            case 8: return receiving.goodHeaders;
            case 9: return receiving.badHeaders;
            case 10: return receiving.goodPackets;
            case 11: return receiving.badPackets;
            default: throw new IllegalArgumentException();
        }
    }

    private Pipe pipeOf(boolean down) {
        return down ? sending.line : receiving.line;
    }

    private static boolean isLetter(int letter) {
        return letter >= 0 && letter < LETTERS;
    }

    /** One direction of the line. */
    private static final class Pipe {
        final byte[] bytes = new byte[PIPE_LIMIT];
        int length;
        /** Every byte ever handed in: what is lost for want of room counts as sent, too. */
        int offered;

        void add(int value) {
            offered++;
            if (length < PIPE_LIMIT) {
                bytes[length] = (byte) value;
                length++;
            }
        }

        boolean has(int k) {
            return k >= 0 && k < length;
        }

        int byteAt(int k) {
            return has(k) ? bytes[k] & 255 : NONE;
        }

        boolean turnBit(int k, int bit) {
            if (!has(k)) {
                return false;
            }
            bytes[k] = (byte) (bytes[k] ^ (1 << bit));
            return true;
        }

        int drop(int from, int many) {
            if (!has(from) || many < 0) {
                return 0;
            }
            int gone = Math.min(many, length - from);
            System.arraycopy(bytes, from + gone, bytes, from, length - from - gone);
            length -= gone;
            return gone;
        }
    }

    /** A file of either side: one to be sent, or what has been got of one. */
    private static final class StoredFile {
        final byte[] bytes = new byte[FILE_LIMIT];
        int letter;
        int length;

        void append(int value) {
            if (length < FILE_LIMIT) {
                bytes[length] = (byte) value;
                length++;
            }
        }

        int byteAt(int k) {
            return k >= 0 && k < length ? bytes[k] & 255 : NONE;
        }
    }

    /** CHECK 16 or CHECK 32 of the bytes added since begin. */
    private static final class Check {
        /** What four bits leave behind, so that a byte takes two steps and not eight. */
        static final int[] STEPS_16 = {
            0x0000, 0x1021, 0x2042, 0x3063, 0x4084, 0x50a5, 0x60c6, 0x70e7,
            0x8108, 0x9129, 0xa14a, 0xb16b, 0xc18c, 0xd1ad, 0xe1ce, 0xf1ef};
        static final int[] STEPS_32 = {
            0x00000000, 0x1db71064, 0x3b6e20c8, 0x26d930ac, 0x76dc4190, 0x6b6b51f4, 0x4db26158, 0x5005713c,
            0xedb88320, 0xf00f9344, 0xd6d6a3e8, 0xcb61b38c, 0x9b64c2b0, 0x86d3d2d4, 0xa00ae278, 0xbdbdf21c};

        boolean wide;
        int rest;

        void begin(boolean check32) {
            wide = check32;
            rest = check32 ? -1 : 0;
        }

        void add(int value) {
            if (wide) {
                rest = (rest >>> 4) ^ STEPS_32[(rest ^ value) & 15];
                rest = (rest >>> 4) ^ STEPS_32[(rest ^ (value >>> 4)) & 15];
            } else {
                rest = ((rest << 4) & 0xffff) ^ STEPS_16[((rest >>> 12) ^ (value >>> 4)) & 15];
                rest = ((rest << 4) & 0xffff) ^ STEPS_16[((rest >>> 12) ^ value) & 15];
            }
        }

        int size() {
            return wide ? 4 : 2;
        }

        /** Byte k of the check in the order of the line: 16 goes highest first, 32 lowest first. */
        int part(int k) {
            return (wide ? ~rest >>> (8 * k) : rest >>> (8 - 8 * k)) & 255;
        }
    }

    /** Puts headers and packets into a pipe. */
    private static final class Writer {
        private final Check check = new Check();
        /** A packet has the check of the header in bytes before it, whatever may have been learned since. */
        private boolean wide;

        void hexHeader(Pipe line, int type, int p) {
            line.add(STAR);
            line.add(STAR);
            line.add(ESCAPE);
            line.add(HEX_FORM);
            check.begin(false);
            for (int i = 0; i < HEADER_BYTES; i++) {
                check.add(headerByte(type, p, i));
            }
            for (int i = 0; i < HEADER_BYTES + check.size(); i++) {
                int value = i < HEADER_BYTES ? headerByte(type, p, i) : check.part(i - HEADER_BYTES);
                line.add(digit(value >>> 4));
                line.add(digit(value & 15));
            }
            line.add(13);
            line.add(10);
        }

        void bytesHeader(Pipe line, int type, int p, boolean check32) {
            line.add(STAR);
            line.add(ESCAPE);
            line.add(check32 ? BYTES_32_FORM : BYTES_16_FORM);
            wide = check32;
            check.begin(check32);
            for (int i = 0; i < HEADER_BYTES; i++) {
                int value = headerByte(type, p, i);
                check.add(value);
                addEscaped(line, value);
            }
            for (int i = 0; i < check.size(); i++) {
                addEscaped(line, check.part(i));
            }
        }

        void beginPacket() {
            check.begin(wide);
        }

        void packetByte(Pipe line, int value) {
            check.add(value);
            addEscaped(line, value);
        }

        void endPacket(Pipe line, int end) {
            line.add(ESCAPE);
            line.add(end);
            check.add(end);
            for (int i = 0; i < check.size(); i++) {
                addEscaped(line, check.part(i));
            }
        }

        private static int headerByte(int type, int p, int k) {
            return k == 0 ? type : (p >>> (8 * (k - 1))) & 255;
        }

        private static int digit(int value) {
            return value < 10 ? '0' + value : 'a' + value - 10;
        }

        private static void addEscaped(Pipe line, int value) {
            if (mustEscape(value)) {
                line.add(ESCAPE);
                line.add(value ^ 64);
            } else {
                line.add(value);
            }
        }

        private static boolean mustEscape(int value) {
            int low = value & 127;
            return low == 16 || low == 17 || low == 19 || value == ESCAPE;
        }
    }

    /** Takes a line byte by byte, and says when a header or a packet has come to its end, good or bad. */
    private static final class Reader {
        static final int NOTHING = 0;
        static final int GOOD_HEADER = 1;
        static final int BAD_HEADER = 2;
        static final int GOOD_PACKET = 3;
        static final int BAD_PACKET = 4;

        private static final int OUTSIDE = 0;
        private static final int BEHIND_STAR = 1;
        private static final int BEHIND_LEAD = 2;
        private static final int IN_HEADER = 3;
        private static final int IN_PACKET = 4;
        private static final int IN_PACKET_CHECK = 5;

        private static final int BAD = -1;
        private static final int NO_DIGIT = -1;

        final byte[] packet = new byte[PACKET_LIMIT];
        int packetSize;
        int end;
        int type;
        int p;
        boolean hex;

        private final Check check = new Check();
        private int where;
        private boolean check32;
        private boolean escaped;
        private int highDigit;
        private int headerSize;
        private int checkSize;
        private boolean checkFits;

        void goOutside() {
            where = OUTSIDE;
        }

        void beginPacket() {
            where = IN_PACKET;
            packetSize = 0;
            beginCheck();
        }

        /** A good packet stays to be looked at until its owner passes on from it. */
        void passPacket() {
            if (end == END_G || end == END_Q) {
                beginPacket();
            }
        }

        int take(int value) {
            switch (where) {
                case OUTSIDE:
                    where = value == STAR ? BEHIND_STAR : OUTSIDE;
                    return NOTHING;
                case BEHIND_STAR:
                    where = value == STAR ? BEHIND_STAR : value == ESCAPE ? BEHIND_LEAD : OUTSIDE;
                    return NOTHING;
                case BEHIND_LEAD:
                    takeForm(value);
                    return NOTHING;
                default:
                    return hex ? takeDigit(value) : takeEscaped(value);
            }
        }

        private void takeForm(int form) {
            if (form != HEX_FORM && form != BYTES_16_FORM && form != BYTES_32_FORM) {
                where = OUTSIDE;
                return;
            }
            where = IN_HEADER;
            hex = form == HEX_FORM;
            check32 = form == BYTES_32_FORM;
            highDigit = NO_DIGIT;
            headerSize = 0;
            p = 0;
            beginCheck();
        }

        private void beginCheck() {
            escaped = false;
            checkSize = 0;
            checkFits = true;
            check.begin(check32);
        }

        private int takeDigit(int value) {
            int digit = digitOf(value);
            if (digit == NO_DIGIT) {
                return giveUp();
            }
            if (highDigit == NO_DIGIT) {
                highDigit = digit;
                return NOTHING;
            }
            int whole = highDigit * 16 + digit;
            highDigit = NO_DIGIT;
            return takeMeant(whole);
        }

        private int takeEscaped(int value) {
            if (!escaped && value == ESCAPE) {
                escaped = true;
                return NOTHING;
            }
            if (!escaped) {
                return takeMeant(value);
            }
            escaped = false;
            if (where == IN_PACKET && value >= END_E && value <= END_W) {
                end = value;
                check.add(value);
                where = IN_PACKET_CHECK;
                return NOTHING;
            }
            int meant = unescaped(value);
            return meant == BAD ? giveUp() : takeMeant(meant);
        }

        private int takeMeant(int value) {
            switch (where) {
                case IN_HEADER: return headerSize < HEADER_BYTES ? takeHeaderByte(value) : takeCheckByte(value);
                case IN_PACKET: return takePacketByte(value);
                default: return takeCheckByte(value);
            }
        }

        private int takeHeaderByte(int value) {
            if (headerSize == 0) {
                type = value;
            } else {
                p |= value << (8 * (headerSize - 1));
            }
            headerSize++;
            check.add(value);
            return NOTHING;
        }

        private int takePacketByte(int value) {
            if (packetSize >= PACKET_LIMIT) {
                return giveUp();
            }
            packet[packetSize] = (byte) value;
            packetSize++;
            check.add(value);
            return NOTHING;
        }

        private int takeCheckByte(int value) {
            checkFits = checkFits && value == check.part(checkSize);
            checkSize++;
            if (checkSize < check.size()) {
                return NOTHING;
            }
            if (!checkFits) {
                return giveUp();
            }
            boolean header = where == IN_HEADER;
            where = OUTSIDE;
            return header ? GOOD_HEADER : GOOD_PACKET;
        }

        private int giveUp() {
            boolean header = where == IN_HEADER;
            where = OUTSIDE;
            return header ? BAD_HEADER : BAD_PACKET;
        }

        private static int digitOf(int value) {
            if (value >= '0' && value <= '9') {
                return value - '0';
            }
            if (value >= 'a' && value <= 'f') {
                return value - 'a' + 10;
            }
            return value >= 'A' && value <= 'F' ? value - 'A' + 10 : NO_DIGIT;
        }

        private static int unescaped(int value) {
            if ((value & 0x60) == 0x40) {
                return value ^ 64;
            }
            return value == 108 ? 127 : value == 109 ? 255 : BAD;
        }
    }

    /** The side that has the files to be sent, and writes into DOWN. */
    private static final class Sender {
        static final int ASKED = 0;
        static final int NAMED = 1;
        static final int SENDING = 2;
        static final int ENDED = 3;
        static final int LEAVING = 4;
        static final int DONE = 5;

        final Pipe line = new Pipe();
        int fileCount;
        int state = DONE;
        int place;

        private final Writer writer = new Writer();
        private final Reader reader = new Reader();
        private final StoredFile[] files = new StoredFile[SENT_FILES];
        private int number;
        private int size = FIRST_SIZE;
        private boolean mayCheck32;
        private boolean dataIsDue;

        StoredFile fileAt(int k) {
            return k >= 0 && k < fileCount ? files[k] : null;
        }

        boolean hasFile(int letter) {
            for (int i = 0; i < fileCount; i++) {
                StoredFile file = files[i];
                if (file != null && file.letter == letter) {
                    return true;
                }
            }
            return false;
        }

        void addFile(int letter) {
            if (fileCount >= SENT_FILES) {
                return;
            }
            // A file dropped earlier leaves its rows behind, and they serve again.
            if (files[fileCount] == null) {
                files[fileCount] = new StoredFile();
            }
            files[fileCount].letter = letter;
            files[fileCount].length = 0;
            fileCount++;
        }

        int dropFiles() {
            int dropped = fileCount;
            fileCount = 0;
            place = 0;
            return dropped;
        }

        int fileNumber() {
            return state == LEAVING || state == DONE ? fileCount : number;
        }

        void begin(int packetSize) {
            line.length = 0;
            reader.goOutside();
            size = packetSize;
            state = ASKED;
            number = 0;
            place = 0;
            mayCheck32 = false;
            sendForState();
        }

        void readAll(Pipe from) {
            int many = from.length;
            for (int i = 0; i < many; i++) {
                if (reader.take(from.byteAt(i)) == Reader.GOOD_HEADER) {
                    takeHeader();
                }
            }
            from.drop(0, many);
        }

        void sendLate() {
            if (state == SENDING) {
                dataIsDue = true;
                sendPackets();
            } else {
                sendForState();
            }
        }

        void sendPackets() {
            StoredFile file = fileAt(number);
            if (state != SENDING || file == null) {
                return;
            }
            if (dataIsDue) {
                writer.bytesHeader(line, DATA, place, mayCheck32);
                dataIsDue = false;
            }
            for (int i = 0; i < PACKETS_AT_ONCE && state == SENDING; i++) {
                sendPacket(file);
            }
            if (state == ENDED) {
                sendForState();
            }
        }

        private void takeHeader() {
            switch (reader.type) {
                case RINIT:
                    mayCheck32 = (reader.p & CAN_CHECK_32) != 0;
                    if (state == ASKED || state == ENDED) {
                        goToNextFile();
                        sendForState();
                    }
                    break;
                case SKIP:
                    if (hasFileAtHand()) {
                        goToNextFile();
                        sendForState();
                    }
                    break;
                case RPOS:
                    goToPlace(reader.p);
                    break;
                case NAK:
                    sendForState();
                    break;
                case FIN:
                    leave();
                    break;
                default:
                    break;
            }
        }

        private boolean hasFileAtHand() {
            return state == NAMED || state == SENDING || state == ENDED;
        }

        private void goToNextFile() {
            number = state == ASKED ? 0 : number + 1;
            if (number < fileCount) {
                state = NAMED;
                place = 0;
            } else {
                state = LEAVING;
            }
        }

        private void goToPlace(int p) {
            StoredFile file = fileAt(number);
            // P has no sign on the line: below 0 here is far above any length.
            if (hasFileAtHand() && file != null && p >= 0 && p <= file.length) {
                state = SENDING;
                place = p;
                dataIsDue = true;
            }
        }

        private void leave() {
            if (state == LEAVING) {
                line.add(LETTER_O);
                line.add(LETTER_O);
                state = DONE;
            }
        }

        /** Sends what belongs to the state; SENDING has its packets instead, and DONE nothing. */
        private void sendForState() {
            StoredFile file = fileAt(number);
            if (state == ASKED) {
                writer.hexHeader(line, RQINIT, 0);
            } else if (state == LEAVING) {
                writer.hexHeader(line, FIN, 0);
            } else if (state == NAMED && file != null) {
                writer.bytesHeader(line, FILE, 0, mayCheck32);
                writer.beginPacket();
                writer.packetByte(line, LETTER_A + file.letter);
                writer.packetByte(line, file.length >>> 8);
                writer.packetByte(line, file.length & 255);
                writer.endPacket(line, END_W);
            } else if (state == ENDED && file != null) {
                writer.bytesHeader(line, EOF, file.length, mayCheck32);
            }
        }

        private void sendPacket(StoredFile file) {
            int behind = Math.min(place + size, file.length);
            writer.beginPacket();
            for (int i = place; i < behind; i++) {
                writer.packetByte(line, file.byteAt(i));
            }
            place = behind;
            if (place < file.length) {
                writer.endPacket(line, END_G);
            } else {
                writer.endPacket(line, END_E);
                state = ENDED;
            }
        }
    }

    /** The side that gets the files, and writes into UP. */
    private static final class Receiver {
        private static final int NAME_BYTES = 3;

        final Pipe line = new Pipe();
        /** By letter; none before it has been made. */
        final StoredFile[] files = new StoredFile[LETTERS];
        StoredFile openFile;
        boolean done = true;
        int goodHeaders;
        int badHeaders;
        int goodPackets;
        int badPackets;

        private final Writer writer = new Writer();
        private final Reader reader = new Reader();
        private boolean canCheck32;
        private boolean nameFollows;

        void begin(boolean check32) {
            line.length = 0;
            canCheck32 = check32;
            goodHeaders = 0;
            badHeaders = 0;
            goodPackets = 0;
            badPackets = 0;
            beginAnew();
        }

        void beginAnew() {
            openFile = null;
            done = false;
            reader.goOutside();
        }

        void readAll(Pipe from) {
            int many = from.length;
            int read = 0;
            while (read < many && !done) {
                act(reader.take(from.byteAt(read)));
                read++;
            }
            from.drop(0, read);
        }

        void sendLate() {
            if (done) {
                return;
            }
            reader.goOutside();
            answer(openFile == null ? RINIT : RPOS);
        }

        private void act(int event) {
            switch (event) {
                case Reader.GOOD_HEADER:
                    goodHeaders++;
                    takeHeader();
                    break;
                case Reader.BAD_HEADER:
                    badHeaders++;
                    answer(NAK);
                    break;
                case Reader.GOOD_PACKET:
                    goodPackets++;
                    if (nameFollows) {
                        takeName();
                    } else {
                        takeContent();
                    }
                    reader.passPacket();
                    break;
                case Reader.BAD_PACKET:
                    badPackets++;
                    answer(nameFollows ? NAK : RPOS);
                    break;
                default:
                    break;
            }
        }

        private void takeHeader() {
            switch (reader.type) {
                case RQINIT:
                    answer(RINIT);
                    break;
                case FILE:
                    if (!reader.hex) {
                        openFile = null;
                        nameFollows = true;
                        reader.beginPacket();
                    }
                    break;
                case DATA:
                    if (reader.hex || openFile == null) {
                        break;
                    }
                    if (reader.p == openFile.length) {
                        nameFollows = false;
                        reader.beginPacket();
                    } else {
                        answer(RPOS);
                    }
                    break;
                case EOF:
                    if (openFile != null && reader.p == openFile.length) {
                        openFile = null;
                        answer(RINIT);
                    }
                    break;
                case FIN:
                    answer(FIN);
                    done = true;
                    break;
                default:
                    break;
            }
        }

        private void takeName() {
            int letter = (reader.packet[0] & 255) - LETTER_A;
            if (reader.packetSize != NAME_BYTES || !isLetter(letter)) {
                answer(NAK);
                return;
            }
            int length = (reader.packet[1] & 255) << 8 | reader.packet[2] & 255;
            StoredFile file = files[letter];
            if (file != null && file.length >= length) {
                answer(SKIP);
                return;
            }
            if (file == null) {
                file = new StoredFile();
                file.letter = letter;
                files[letter] = file;
            }
            openFile = file;
            answer(RPOS);
        }

        private void takeContent() {
            if (openFile == null) {
                return;
            }
            for (int i = 0; i < reader.packetSize; i++) {
                openFile.append(reader.packet[i]);
            }
            if (reader.end == END_Q || reader.end == END_W) {
                answer(ACK);
            }
        }

        private void answer(int type) {
            writer.hexHeader(line, type, numberFor(type));
        }

        private int numberFor(int type) {
            if (type == RINIT) {
                return canCheck32 ? CAN_CHECK_32 : 0;
            }
            return openFile != null && (type == RPOS || type == ACK) ? openFile.length : 0;
        }
    }
}
