/** Counts the answers of one test that are not as due, and tells them. */
final class Due {
    private static final String NOTHING = "nothing thrown";

    private static int wrong = 0;

    private Due() {
    }

    /** A call that is looked at for what it throws. */
    interface Call {
        void run();
    }

    static void same(String what, long got, long want) {
        if (got != want) {
            tell(what + " answered " + got + ", due is " + want);
        }
    }

    static void same(String what, String got, String want) {
        if (!got.equals(want)) {
            tell(what + " answered " + got + ", due is " + want);
        }
    }

    static void holds(String what, boolean got) {
        if (!got) {
            tell(what + " does not hold");
        }
    }

    /** The very class is due, as a class below it would be another answer. */
    static void throwing(String what, Class<? extends RuntimeException> want, Call call) {
        same(what, thrownBy(call), want.getSimpleName());
    }

    /** The call is taken: it throws nothing. */
    static void taken(String what, Call call) {
        same(what, thrownBy(call), NOTHING);
    }

    static boolean throwsAny(Call call) {
        return !thrownBy(call).equals(NOTHING);
    }

    static String thrownBy(Call call) {
        try {
            call.run();
        } catch (RuntimeException e) {
            return e.getClass().getSimpleName();
        }
        return NOTHING;
    }

    static void tell(String text) {
        wrong++;
        System.out.println(text);
    }

    static void end() {
        if (wrong != 0) {
            System.out.println(wrong + " answers are not as due");
            System.exit(1);
        }
    }
}
