/** Promise 2: a field gets a value that has not more bits than it. */
public final class FieldTest {
    private static final int[][] WIDTHS = {{6, 24, 18}, {6, 24, 30, 36}, {12, 36}, {18}};

    public static void main(String[] args) {
        for (int form = 0; form < WIDTHS.length; form++) {
            edgesOfValues(form);
            noSuchField(form);
        }
        indexFirst();
        throwingChangesNothing();
        Due.end();
    }

    private static void edgesOfValues(int form) {
        for (int what = 0; what < WIDTHS[form].length; what++) {
            long most = (1L << WIDTHS[form][what]) - 1;
            long[] wrong = {-1, Long.MIN_VALUE, most + 1, 1L << 40, 1L << 62, Long.MAX_VALUE};
            for (long v : wrong) {
                refused(form, what, v, IllegalArgumentException.class);
            }
            for (long v : new long[] {0, 1, most / 3, most}) {
                comesBack(form, what, v);
            }
        }
    }

    private static void comesBack(int form, int what, long v) {
        long[] values = new long[WIDTHS[form].length];
        values[what] = v;
        BarCodes codes = new BarCodes(form);
        Due.same("parse()", Rows.parse(codes, Rows.of(form, values)), values.length);
        Due.same("field " + what + " of form " + form, codes.value(what), v);
    }

    private static void noSuchField(int form) {
        int[] wrong = {-1, WIDTHS[form].length, Integer.MIN_VALUE, Integer.MAX_VALUE};
        for (int what : wrong) {
            refused(form, what, 0, IndexOutOfBoundsException.class);
        }
    }

    private static void indexFirst() {
        refused(0, 3, -1, IndexOutOfBoundsException.class);
        refused(3, -1, Long.MAX_VALUE, IndexOutOfBoundsException.class);
    }

    private static void refused(int form, int what, long v, Class<? extends RuntimeException> want) {
        BarCodes codes = new BarCodes(form);
        Due.throwing("field(" + what + ", " + v + ") of form " + form, want, () -> codes.field(what, v));
    }

    private static void throwingChangesNothing() {
        BarCodes codes = new BarCodes(3);
        Due.thrownBy(() -> codes.field(0, 1 << 18));
        Due.same("make() when no value was taken", codes.make(), BarCodes.NONE);
        codes.field(0, 77);
        Due.thrownBy(() -> codes.field(0, -1));
        codes.make();
        Due.same("the row when a value was refused", Rows.text(codes, 34), Rows.of(3, 77));
    }
}
