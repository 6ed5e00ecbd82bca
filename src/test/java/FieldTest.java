/** Promise 2: a field gets a value that has not more bits than it. */
public final class FieldTest {
    private static final int[] FORMS = {0, 1, 2, 3, 65536};

    public static void main(String[] args) {
        for (int form : FORMS) {
            fieldsFromZeroOn(form);
            noSuchField(form);
            noSuchFieldIsNamedFirst(form);
            for (int what = 0; what < Forms.WIDTHS[Forms.kind(form)].length; what++) {
                leastValue(form, what);
                greatestValue(form, what);
                belowZero(form, what);
                moreBits(form, what);
                laterValueCounts(form, what);
            }
        }
        Due.end();
    }

    private static void fieldsFromZeroOn(int form) {
        int count = Forms.WIDTHS[Forms.kind(form)].length;
        BarCodes codes = new BarCodes(form);
        Due.taken("field(0, 1) of form " + form, () -> codes.field(0, 1));
        Due.taken("the last field of form " + form, () -> codes.field(count - 1, 1));
    }

    private static void noSuchField(int form) {
        int count = Forms.WIDTHS[Forms.kind(form)].length;
        int[] wrong = {-1, count, count + 1, Integer.MIN_VALUE, Integer.MAX_VALUE};
        for (int what : wrong) {
            refused(form, what, 0, IndexOutOfBoundsException.class);
        }
    }

    private static void noSuchFieldIsNamedFirst(int form) {
        int count = Forms.WIDTHS[Forms.kind(form)].length;
        refused(form, -1, -1, IndexOutOfBoundsException.class);
        refused(form, count, -1, IndexOutOfBoundsException.class);
        refused(form, count, Long.MAX_VALUE, IndexOutOfBoundsException.class);
        refused(form, -1, Long.MIN_VALUE, IndexOutOfBoundsException.class);
    }

    private static void leastValue(int form, int what) {
        comesBack(form, what, 0);
        comesBack(form, what, 1);
    }

    private static void greatestValue(int form, int what) {
        long most = Forms.most(Forms.kind(form), what);
        comesBack(form, what, most);
        comesBack(form, what, most - 1);
        comesBack(form, what, most / 2 + 1);
    }

    private static void belowZero(int form, int what) {
        long[] wrong = {-1, -2, -Forms.most(Forms.kind(form), what) - 1, Integer.MIN_VALUE, Long.MIN_VALUE};
        for (long v : wrong) {
            refused(form, what, v, IllegalArgumentException.class);
        }
    }

    /** The lowest bits of these would fit. */
    private static void moreBits(int form, int what) {
        long most = Forms.most(Forms.kind(form), what);
        long[] wrong = {most + 1, most + 2, 1L << 36, 1L << 40, (1L << 62) + 1, Long.MAX_VALUE};
        for (long v : wrong) {
            refused(form, what, v, IllegalArgumentException.class);
        }
        if (most < 1L << 32) {
            refused(form, what, 1L << 32, IllegalArgumentException.class);
        }
    }

    private static void laterValueCounts(int form, int what) {
        long[] values = Forms.VALUES[Forms.kind(form)].clone();
        BarCodes codes = Rows.given(form, values);
        values[what] = Forms.OTHERS[Forms.kind(form)][what];
        codes.field(what, values[what]);
        Due.same("the row when field " + what + " got another value",
                Rows.text(codes, codes.make()), Rows.of(form, values));
    }

    private static void comesBack(int form, int what, long v) {
        long[] values = Forms.VALUES[Forms.kind(form)].clone();
        values[what] = v;
        BarCodes maker = new BarCodes(form);
        Due.taken("field(" + what + ", " + v + ") of form " + form, () -> Rows.give(maker, values));
        BarCodes reader = new BarCodes(form);
        int parsed = Rows.parse(reader, Rows.text(maker, Math.max(0, maker.make())));
        Due.same("parse() of field " + what + " with " + v + " in form " + form, parsed, values.length);
        for (int k = 0; k < values.length; k++) {
            Due.same("value(" + k + ") of form " + form, reader.value(k), values[k]);
        }
    }

    private static void refused(int form, int what, long v, Class<? extends RuntimeException> want) {
        Unchanged.refusedEver("field(" + what + ", " + v + ")", form, want, codes -> codes.field(what, v));
    }
}
