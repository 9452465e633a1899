import java.io.IOException;
import java.nio.file.Files;
import java.nio.file.Path;

/** The document's words: one section of it, and which of its words a test stands for. */
final class Doc {
    private static final Path PLACE = Path.of("..", "shared", "DOC.md");

    private final String text;
    private final boolean[] tested;

    /** A section (a promise's without the call's own line), or the paragraph of Terms that begins so. */
    Doc(String section) {
        String all = read(PLACE);
        text = all == null ? null : plain(isSection(all, section) ? words(all, section) : term(all, section));
        tested = new boolean[text == null ? 0 : text.length()];
    }

    boolean isThere() {
        return text != null;
    }

    String text() {
        return text == null ? "" : text;
    }

    /** Whether these words stand in the section; from now on they count as tested. */
    boolean quote(String words) {
        int at = text.indexOf(words);
        if (at < 0 || words.isEmpty()) {
            return false;
        }
        for (; at >= 0; at = text.indexOf(words, at + 1)) {
            for (int i = at; i < at + words.length(); i++) {
                tested[i] = true;
            }
        }
        return true;
    }

    /** What no test stands for, but for marks between words. */
    String untested() {
        StringBuilder rest = new StringBuilder();
        for (int i = 0; i < tested.length; i++) {
            rest.append(tested[i] ? '/' : text.charAt(i));
        }
        String left = rest.toString().replaceAll("[/ .,:;()]+", " ").trim();
        return left.replaceAll("\\b(and|or|but|so)\\b", "").isBlank() ? "" : left;
    }

    /** The whole of a file, or null. */
    static String read(Path place) {
        try {
            return Files.readString(place);
        } catch (IOException e) {
            return null;
        }
    }

    /** One space between words, whatever the lines. */
    static String plain(String part) {
        return part.replaceAll("\\s+", " ").trim();
    }

    private static boolean isSection(String all, String name) {
        return all.contains("\n## " + name + "\n");
    }

    private static String words(String all, String section) {
        int from = all.indexOf("\n## " + section + "\n") + 1;
        int to = all.indexOf("\n## ", from);
        String body = all.substring(all.indexOf('\n', from), to < 0 ? all.length() : to);
        return section.startsWith("Promise ") ? body.substring(body.lastIndexOf("`: ") + 3) : body;
    }

    /** A block of text right behind the paragraph belongs to it. */
    private static String term(String all, String section) {
        int from = all.indexOf("\n" + section, all.indexOf("\n## Terms\n"));
        if (from < 0) {
            return "";
        }
        int to = all.indexOf("\n\n", from);
        int block = all.indexOf("```text", to);
        if (block == to + 2) {
            to = all.indexOf("```", block + 3);
        }
        return all.substring(from, to).replace("```text", "");
    }
}
