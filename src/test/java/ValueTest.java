/** Promise 8: a field of the latest row that was right. */
public final class ValueTest {
    private static final int[] FORMS = {0, 1, 2, 3, 65536};

    public static void main(String[] args) {
        for (int form : FORMS) {
            noneAtFirst(form);
            noneWhenNoneWasRight(form);
            noneWhenOneWasMade(form);
            firstAndLastField(form);
            noSuchField(form);
            latestRight(form);
            notThoseGiven(form);
        }
        greatestFields();
        Due.end();
    }

    private static void none(String when, BarCodes codes, int form) {
        for (int what = 0; what < Forms.WIDTHS[Forms.kind(form)].length; what++) {
            Due.same("value(" + what + ") of form " + form + " " + when, codes.value(what), BarCodes.NONE);
        }
    }

    private static void noneAtFirst(int form) {
        none("at first", new BarCodes(form), form);
    }

    private static void noneWhenNoneWasRight(int form) {
        BarCodes codes = new BarCodes(form);
        codes.parse();
        Rows.parse(codes, "1");
        Rows.parse(codes, "?".repeat(Forms.LENGTHS[Forms.kind(form)]));
        none("when none was right", codes, form);
    }

    private static void noneWhenOneWasMade(int form) {
        BarCodes codes = Rows.given(form, Forms.VALUES[Forms.kind(form)]);
        none("when fields have values", codes, form);
        codes.make();
        none("when a row was made", codes, form);
    }

    private static void firstAndLastField(int form) {
        long[] values = Forms.VALUES[Forms.kind(form)];
        BarCodes codes = new BarCodes(form);
        Rows.parse(codes, Rows.of(form, values));
        Due.same("value(0) of form " + form, codes.value(0), values[0]);
        Due.same("the last field of form " + form, codes.value(values.length - 1), values[values.length - 1]);
    }

    private static void noSuchField(int form) {
        int count = Forms.WIDTHS[Forms.kind(form)].length;
        int[] wrong = {-1, -2, count, count + 1, Integer.MIN_VALUE, Integer.MAX_VALUE};
        for (int what : wrong) {
            Unchanged.refusedEver("value(" + what + ")", form, IndexOutOfBoundsException.class,
                    codes -> codes.value(what));
        }
    }

    private static void latestRight(int form) {
        int kind = Forms.kind(form);
        BarCodes codes = new BarCodes(form);
        Rows.parse(codes, Rows.of(form, Forms.VALUES[kind]));
        Rows.parse(codes, Rows.of(form, Forms.OTHERS[kind]));
        Rows.parse(codes, "?".repeat(Forms.LENGTHS[kind]));
        Due.same("the fields of form " + form, Rows.fields(codes, Forms.OTHERS[kind].length),
                Rows.text(Forms.OTHERS[kind]));
    }

    private static void notThoseGiven(int form) {
        int kind = Forms.kind(form);
        BarCodes codes = new BarCodes(form);
        Rows.parse(codes, Rows.of(form, Forms.VALUES[kind]));
        Rows.give(codes, Forms.OTHERS[kind]);
        codes.make();
        Due.same("the fields when a row was made", Rows.fields(codes, Forms.VALUES[kind].length),
                Rows.text(Forms.VALUES[kind]));
    }

    private static void greatestFields() {
        BarCodes codes = new BarCodes(1);
        Rows.parse(codes, Rows.of(1, 63, 16777215, 1073741823, 68719476735L));
        Due.same("the greatest fields", Rows.fields(codes, 4), "63 16777215 1073741823 68719476735");
        Rows.parse(codes, Rows.of(1, 0, 0, 0, 0));
        Due.same("the least fields", Rows.fields(codes, 4), "0 0 0 0");
    }
}
