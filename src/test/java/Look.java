import java.util.Arrays;

/** What can be seen of an object through its face. */
final class Look {
    private Look() {
    }

    static int[] pipe(FrameFerry x, boolean down) {
        int[] bytes = new int[x.count(down ? 6 : 7)];
        for (int i = 0; i < bytes.length; i++) {
            bytes[i] = x.pipe(down, i);
        }
        return bytes;
    }

    static int[] got(FrameFerry x, int letter) {
        int[] bytes = new int[301];
        int many = 0;
        for (int next = x.got(letter, 0); many < bytes.length && next != FrameFerry.NONE; next = x.got(letter, many)) {
            bytes[many] = next;
            many++;
        }
        return Arrays.copyOf(bytes, many);
    }

    static int[] counts(FrameFerry x) {
        int[] counts = new int[12];
        for (int i = 0; i < counts.length; i++) {
            counts[i] = x.count(i);
        }
        return counts;
    }

    static String all(FrameFerry x) {
        StringBuilder text = new StringBuilder(Arrays.toString(counts(x)));
        text.append(Arrays.toString(pipe(x, true))).append(Arrays.toString(pipe(x, false)));
        for (int letter = 0; letter < 26; letter++) {
            text.append(Arrays.toString(got(x, letter)));
        }
        return text.toString();
    }
}
