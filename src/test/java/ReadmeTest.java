import java.nio.file.Path;

/** What README.md tells: its example runs as told, and each call stands there in the document's words. */
public final class ReadmeTest {
    private static final Due DUE = new Due();
    private static final String README = text(Path.of("README.md"));
    private static final String[] CALLS = {"A new object", "open", "feed", "clear", "start", "sender", "receiver", "late",
        "crash", "flip", "lose", "pipe", "got", "count"};

    public static void main(String[] args) {
        callsAreTold();
        exampleIsThis();
        DUE.same("what the example says comes", example(), 'h', 'e', 'l', 'l', 'o', FrameFerry.NONE);
        DUE.is("how to run the tests", README.contains("```sh\nbash .ci/run\n```"), true);
        DUE.end();
    }

    private static String text(Path place) {
        String all = Doc.read(place);
        return all == null ? "" : all;
    }

    private static void callsAreTold() {
        String plain = Doc.plain(README);
        for (int i = 0; i < CALLS.length; i++) {
            Doc doc = new Doc("Promise " + (i + 1) + ": " + CALLS[i]);
            DUE.is("the document tells of " + CALLS[i], doc.text().isEmpty(), false);
            for (String sentence : doc.text().split("(?<=\\.) (?=[A-Z])")) {
                DUE.is("README.md says of " + CALLS[i] + ": " + sentence, plain.contains(sentence), true);
            }
        }
    }

    /** The lines of example() are those of README.md, without what they are told to do. */
    private static void exampleIsThis() {
        String own = text(Path.of("src", "test", "java", "ReadmeTest.java"));
        String told = between(README, "```java\n", "```").replaceAll(" *//[^\n]*", "");
        String run = between(own, "private static int[] example() {\n", "int first").replaceAll(" *//[^\n]*", "");
        DUE.is("there is an example", told.contains("x.start("), true);
        DUE.is("it is the one that runs here", Doc.plain(told).startsWith(Doc.plain(run)), true);
    }

    private static String between(String all, String begin, String end) {
        int from = all.indexOf(begin) + begin.length();
        int to = all.indexOf(end, from);
        return from < begin.length() || to < 0 ? "" : all.substring(from, to);
    }

    private static int[] example() {
        FrameFerry x = new FrameFerry();
        x.open(2);
        x.feed(5, 0x68656c6c, 0x6f000000, 0, 0);
        x.start(true, 2);
        x.flip(true, 5, 3);
        x.receiver();
        x.sender();
        x.receiver();
        x.sender();
        x.receiver();
        x.sender();
        x.lose(true, 20, 1);
        x.receiver();
        x.crash();
        x.start(true, 2);
        while (x.count(0) != 5) {
            if (x.receiver() + x.sender() == 0) {
                x.late(true);
            }
        }
        int first = x.got(2, 0);
        return new int[] {first, x.got(2, 1), x.got(2, 2), x.got(2, 3), x.got(2, 4), x.got(2, 5)};
    }
}
