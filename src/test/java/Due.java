import java.util.Arrays;

/** Collects answers that are not the ones due, and ends the program with 1 if there were any. */
final class Due {
    interface Call {
        void run();
    }

    private int asked;
    private int wrong;

    void is(String what, long got, long want) {
        asked++;
        if (got != want) {
            tell(what + " answered " + got + ", due is " + want);
        }
    }

    void is(String what, boolean got, boolean want) {
        asked++;
        if (got != want) {
            tell(what + " answered " + got + ", due is " + want);
        }
    }

    void same(String what, int[] got, int[] want) {
        asked++;
        if (!Arrays.equals(got, want)) {
            tell(what + " is " + Arrays.toString(got) + ", due is " + Arrays.toString(want));
        }
    }

    void argument(String what, FrameFerry x, Call call) {
        refused(what, x, call, IllegalArgumentException.class);
    }

    void state(String what, FrameFerry x, Call call) {
        refused(what, x, call, IllegalStateException.class);
    }

    /** What throws changes nothing, so every refusal is looked at from all sides. */
    private void refused(String what, FrameFerry x, Call call, Class<?> want) {
        asked++;
        String before = Look.all(x);
        Class<?> got = null;
        try {
            call.run();
        } catch (RuntimeException e) {
            got = e.getClass();
        }
        if (got != want) {
            tell(what + " threw " + got + ", due is " + want);
        }
        if (!before.equals(Look.all(x))) {
            tell(what + " changed something");
        }
    }

    void tell(String text) {
        wrong++;
        System.out.println(text);
    }

    void end() {
        System.out.println(asked + " answers looked at, " + wrong + " not as due");
        if (wrong != 0 || asked == 0) {
            System.exit(1);
        }
    }
}
