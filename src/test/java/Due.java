/** Counts the answers of one test that are not as due, and tells them. */
final class Due {
    private static int wrong = 0;

    private Due() {
    }

    /** A call that is looked at for what it throws. */
    interface Call {
        void run();
    }

    static void same(String what, long got, long want) {
        if (got != want) {
            tell(what + " answered " + got + ", due is " + want);
        }
    }

    static void same(String what, String got, String want) {
        if (!got.equals(want)) {
            tell(what + " answered " + got + ", due is " + want);
        }
    }

    static void holds(String what, boolean got) {
        if (!got) {
            tell(what + " does not hold");
        }
    }

    /** The very class is due, as a class below it would be another answer. */
    static void throwing(String what, Class<? extends RuntimeException> want, Call call) {
        String got = thrownBy(call);
        same(what, got, want.getSimpleName());
    }

    static String thrownBy(Call call) {
        try {
            call.run();
        } catch (RuntimeException e) {
            return e.getClass().getSimpleName();
        }
        return "nothing thrown";
    }

    static void tell(String text) {
        wrong++;
        System.out.println(text);
    }

    static void end() {
        if (wrong != 0) {
            System.out.println(wrong + " answers are not as due");
            System.exit(1);
        }
    }
}
