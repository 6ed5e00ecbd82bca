/** Shows that a call changes nothing: an object with it and one without it answer alike ever after. */
final class Unchanged {
    private Unchanged() {
    }

    /** Answers of an object, as a text. */
    private interface Look {
        String at(BarCodes codes, States.State state);
    }

    /** The call throws, whatever the object has gone through, and changes nothing. */
    static void refusedEver(String what, int form, Class<? extends RuntimeException> want, States.Steps call) {
        for (States.State state : States.all(form)) {
            refused(what, state, want, call);
        }
    }

    static void refused(String what, States.State state, Class<? extends RuntimeException> want, States.Steps call) {
        by(what, state, codes -> Due.throwing(what + " (" + state + ")", want, () -> call.on(codes)));
    }

    /** Objects of their own for each look, as none has calls enough for all. */
    static void by(String what, States.State state, States.Steps call) {
        madeBy(what, state, call);
        toldBy(what, state, call);
        readBy(what, state, call);
        fieldsBy(what, state, call);
    }

    static void madeBy(String what, States.State state, States.Steps call) {
        alike(what + ": what was made", state, call, Unchanged::made);
    }

    static void toldBy(String what, States.State state, States.Steps call) {
        alike(what + ": what was told", state, call, Unchanged::told);
    }

    static void readBy(String what, States.State state, States.Steps call) {
        alike(what + ": what was read", state, call, Unchanged::reads);
    }

    static void fieldsBy(String what, States.State state, States.Steps call) {
        alike(what + ": the fields", state, call, Unchanged::makes);
    }

    private static void alike(String what, States.State state, States.Steps call, Look look) {
        BarCodes with = state.made();
        call.on(with);
        BarCodes without = state.made();
        Due.same(what + " (" + state + ")", look.at(with, state), look.at(without, state));
    }

    private static String reads(BarCodes codes, States.State state) {
        String more = state.rest().isEmpty() ? Due.thrownBy(codes::erased) : "";
        int parsed = Rows.parse(codes, state.rest());
        return more + " " + parsed + " " + told(codes, state);
    }

    private static String makes(BarCodes codes, States.State state) {
        return codes.make() + " " + codes.mask() + " " + made(codes, state);
    }

    private static String made(BarCodes codes, States.State state) {
        if (Due.throwsAny(() -> codes.bar(0))) {
            return "no row";
        }
        return Rows.text(codes, Forms.LENGTHS[Forms.kind(state.form())]);
    }

    private static String told(BarCodes codes, States.State state) {
        String fields = Rows.fields(codes, Forms.WIDTHS[Forms.kind(state.form())].length);
        return fields + ", " + codes.mended() + " mended, mask " + codes.mask() + ", turned " + codes.turned();
    }
}
