/** Promise 3: a row is made of the fields. */
public final class MakeTest {
    private static final int[] FORMS = {0, 1, 2, 3, 65536};

    public static void main(String[] args) {
        rowsOfEachForm();
        for (int form : FORMS) {
            for (int what = 0; what < Forms.WIDTHS[Forms.kind(form)].length; what++) {
                noneWithoutAField(form, what);
                lastFieldCompletes(form, what);
            }
            noneWhenAllWereRefused(form);
            zerosAreValues(form);
            rowStaysWhenFieldsGetOtherValues(form);
            rowStaysWhenAValueIsRefused(form);
            rowStaysWhenOthersAreRead(form);
            madeTwice(form);
        }
        Due.end();
    }

    private static void rowsOfEachForm() {
        for (int kind = 0; kind < Forms.KINDS; kind++) {
            row(Forms.ROWS[kind], kind, Forms.VALUES[kind]);
        }
        row("1333300000000000020000000133001311123301", 0, 63, 0, 131073);
        row("1300100000000000200000000000000300000000000000001010310103313100212001", 1, 1, 2, 3, 4);
        row("1000000000000000000000001100001111", 3, 0);
        row("1010101100001111000101101100100011", 7, 0x2B0F1);
        row("1010101100001111000101110000111111", 64, 0x2B0F1);
        row("1010101100001111000101111000110111", 66, 0x2B0F1);
        row("1010101100001111000101110000111111", 65536, 0x2B0F1);
        row("101010101010110101010100101010101011110101010100101010101011110101010100"
                + "101010101011110101010100101010101011110101010100101010100001111111111111", 2, 0, 0);
        row("101010101010101010101010110101010101101010101010110101010101101010101100"
                + "100111001001110110000010100010010101110010111110101100000001111111111111",
                2, 4095, 68719476735L);
    }

    private static void row(String want, int form, long... values) {
        BarCodes codes = Rows.given(form, values);
        Due.same("make() of form " + form, codes.make(), want.length());
        Due.same("the row of form " + form, Rows.text(codes, want.length()), want);
    }

    private static void noneWithoutAField(int form, int what) {
        Unchanged.by("make() without field " + what, States.without(form, what), codes ->
                Due.same("make() of form " + form + " without field " + what, codes.make(), BarCodes.NONE));
    }

    private static void lastFieldCompletes(int form, int what) {
        int kind = Forms.kind(form);
        BarCodes codes = States.without(form, what).made();
        Due.same("make() when field " + what + " has no value", codes.make(), BarCodes.NONE);
        Due.throwing("bar(0) then", ArrayIndexOutOfBoundsException.class, () -> codes.bar(0));
        codes.field(what, Forms.VALUES[kind][what]);
        Due.same("make() when field " + what + " has got it", codes.make(), Forms.LENGTHS[kind]);
        Due.same("the row then", Rows.text(codes, Forms.LENGTHS[kind]), Rows.of(form, Forms.VALUES[kind]));
    }

    private static void noneWhenAllWereRefused(int form) {
        int kind = Forms.kind(form);
        BarCodes codes = new BarCodes(form);
        for (int what = 0; what < Forms.WIDTHS[kind].length; what++) {
            int field = what;
            Due.throwsAny(() -> codes.field(field, -1));
            Due.throwsAny(() -> codes.field(field, Forms.most(kind, field) + 1));
        }
        Due.same("make() of form " + form + " when all values were refused", codes.make(), BarCodes.NONE);
    }

    private static void zerosAreValues(int form) {
        int kind = Forms.kind(form);
        BarCodes codes = Rows.given(form, new long[Forms.WIDTHS[kind].length]);
        Due.same("make() of zeros in form " + form, codes.make(), Forms.LENGTHS[kind]);
    }

    private static void rowStaysWhenFieldsGetOtherValues(int form) {
        int kind = Forms.kind(form);
        BarCodes codes = Rows.given(form, Forms.VALUES[kind]);
        int length = codes.make();
        Rows.give(codes, Forms.OTHERS[kind]);
        Due.same("the row when fields got other values", Rows.text(codes, length), Rows.of(form, Forms.VALUES[kind]));
        Due.same("make() anew", codes.make(), length);
        Due.same("the row made anew", Rows.text(codes, length), Rows.of(form, Forms.OTHERS[kind]));
    }

    private static void rowStaysWhenAValueIsRefused(int form) {
        int kind = Forms.kind(form);
        BarCodes codes = Rows.given(form, Forms.VALUES[kind]);
        int length = codes.make();
        Due.throwsAny(() -> codes.field(0, -1));
        Due.same("the row when a value was refused", Rows.text(codes, length), Rows.of(form, Forms.VALUES[kind]));
        codes.make();
        Due.same("the row made anew then", Rows.text(codes, length), Rows.of(form, Forms.VALUES[kind]));
    }

    private static void rowStaysWhenOthersAreRead(int form) {
        int kind = Forms.kind(form);
        BarCodes codes = Rows.given(form, Forms.VALUES[kind]);
        codes.make();
        Rows.parse(codes, Rows.of(form, Forms.OTHERS[kind]));
        String row = Rows.of(form, Forms.VALUES[kind]);
        Due.same("the row when another one was read", Rows.text(codes, row.length()), row);
        codes.make();
        Due.same("the row made anew of the same fields", Rows.text(codes, row.length()), row);
    }

    private static void madeTwice(int form) {
        int kind = Forms.kind(form);
        BarCodes codes = Rows.given(form, Forms.VALUES[kind]);
        Due.same("make()", codes.make(), Forms.LENGTHS[kind]);
        Due.same("make() a second time", codes.make(), Forms.LENGTHS[kind]);
        Due.same("the row then", Rows.text(codes, Forms.LENGTHS[kind]), Rows.of(form, Forms.VALUES[kind]));
    }
}
