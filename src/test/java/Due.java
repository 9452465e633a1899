import java.util.Arrays;

/** Collects answers that are not the ones due, and ends the program with 1 if there were any. */
final class Due {
    interface Call {
        void run();
    }

    private final String section;
    private final Doc doc;
    private String test = "";
    private int asked;
    private int wrong;

    /** Tests that belong to no one section of the document. */
    Due() {
        section = "";
        doc = null;
    }

    /** Tests of one section of the document, each named by the words that it holds the class to. */
    Due(String section) {
        this.section = section;
        Doc found = new Doc(section);
        doc = found.isThere() ? found : null;
    }

    void test(String words, Call call) {
        int askedBefore = asked;
        int wrongBefore = wrong;
        test = section + " \"" + words + "\": ";
        quote(words);
        try {
            call.run();
        } catch (RuntimeException e) {
            tell("threw " + e);
        }
        if (asked == askedBefore) {
            tell("looks at no answer");
        }
        System.out.println((wrong == wrongBefore ? "ok: " : "FAILED: ") + section + " \"" + words + "\"");
        test = "";
    }

    /** Words that no call can show to hold or not. */
    void unseen(String words, String why) {
        test = section + " \"" + words + "\": ";
        quote(words);
        test = "";
        System.out.println("not to be seen: " + section + " \"" + words + "\": " + why);
    }

    private void quote(String words) {
        if (doc != null && !doc.quote(words)) {
            tell("the document does not say so");
        }
    }

    void is(String what, long got, long want) {
        asked++;
        if (got != want) {
            tell(what + " answered " + got + ", due is " + want);
        }
    }

    void is(String what, boolean got, boolean want) {
        asked++;
        if (got != want) {
            tell(what + " answered " + got + ", due is " + want);
        }
    }

    void same(String what, int[] got, int... want) {
        asked++;
        if (!Arrays.equals(got, want)) {
            tell(what + " is " + Arrays.toString(got) + ", due is " + Arrays.toString(want));
        }
    }

    void argument(String what, FrameFerry x, Call call) {
        refused(what, x, call, IllegalArgumentException.class);
    }

    void state(String what, FrameFerry x, Call call) {
        refused(what, x, call, IllegalStateException.class);
    }

    /** What throws changes nothing, so every refusal is looked at from all sides. */
    private void refused(String what, FrameFerry x, Call call, Class<?> want) {
        asked++;
        String before = Look.all(x);
        Class<?> got = null;
        try {
            call.run();
        } catch (RuntimeException e) {
            got = e.getClass();
        }
        if (got != want) {
            tell(what + " threw " + got + ", due is " + want);
        }
        if (!before.equals(Look.all(x))) {
            tell(what + " changed something");
        }
    }

    void tell(String text) {
        wrong++;
        System.out.println(test + text);
    }

    void end() {
        if (doc == null && !section.isEmpty()) {
            System.out.println("the document is not at hand: the names of these tests were not looked up in it");
        } else if (doc != null && !doc.untested().isEmpty()) {
            tell(section + " has words without a test: " + doc.untested());
        }
        System.out.println(asked + " answers looked at, " + wrong + " not as due");
        if (wrong != 0 || asked == 0) {
            System.exit(1);
        }
    }
}
