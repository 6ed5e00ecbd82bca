/** Promise 8: a field of the latest row that was right. */
public final class ValueTest {
    private static final int[] COUNTS = {3, 4, 2, 1};

    public static void main(String[] args) {
        for (int form = 0; form < COUNTS.length; form++) {
            noneAtFirst(form);
            noSuchField(form);
        }
        latestRight();
        Due.end();
    }

    private static void noneAtFirst(int form) {
        BarCodes codes = new BarCodes(form);
        for (int what = 0; what < COUNTS[form]; what++) {
            codes.field(what, 1);
        }
        codes.make();
        Rows.parse(codes, "0");
        for (int what = 0; what < COUNTS[form]; what++) {
            Due.same("value(" + what + ") when none was right", codes.value(what), BarCodes.NONE);
        }
    }

    private static void noSuchField(int form) {
        BarCodes codes = new BarCodes(form);
        int[] wrong = {-1, COUNTS[form], Integer.MIN_VALUE, Integer.MAX_VALUE};
        for (int what : wrong) {
            Due.throwing("value(" + what + ") of form " + form, IndexOutOfBoundsException.class,
                    () -> codes.value(what));
        }
    }

    private static void latestRight() {
        BarCodes codes = Rows.given(1, 1, 2, 3, 4);
        Rows.parse(codes, Rows.of(1, 63, 16777215, 1073741823, 68719476735L));
        Due.same("the greatest fields", Rows.fields(codes, 4), "63 16777215 1073741823 68719476735");
        codes.make();
        Due.same("when another one was made", Rows.fields(codes, 4), "63 16777215 1073741823 68719476735");
        Rows.parse(codes, Rows.of(1, 9, 8, 7, 6));
        Due.same("the latest", Rows.fields(codes, 4), "9 8 7 6");
    }
}
