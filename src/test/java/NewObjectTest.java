/** Promise 1: codes of a form; no field has a value, nothing is read. */
public final class NewObjectTest {
    /** The row of the tag 0x2B0F1 without its check symbols, which are 28 and 15 before the form is taken xor. */
    private static final String TAG_START = "10101011000011110001";

    public static void main(String[] args) {
        belowZeroIsZero();
        namedForms();
        tagsUpToTheHighestForm();
        aboveItModulo65537();
        keyOfTheFormThatIsLeft();
        int[] forms = {0, 1, 2, 3, 64, 65536, -1, Integer.MIN_VALUE, 65537, 65538, 65539, 65540, Integer.MAX_VALUE};
        for (int form : forms) {
            noFieldHasAValue(form);
            nothingIsMadeOrTold(form);
            nothingIsRead(form);
        }
        Due.end();
    }

    private static void belowZeroIsZero() {
        isKind(0, Forms.SHORT);
        isKind(-1, Forms.SHORT);
        isKind(-2, Forms.SHORT);
        isKind(-65535, Forms.SHORT);
        isKind(-65536, Forms.SHORT);
        isKind(-65537, Forms.SHORT);
        isKind(Integer.MIN_VALUE, Forms.SHORT);
    }

    private static void namedForms() {
        isKind(1, Forms.LONG);
        isKind(2, Forms.SQUARE);
        isKind(3, Forms.TAGS);
        isTag(4, 4);
    }

    private static void tagsUpToTheHighestForm() {
        isTag(62, 62);
        isTag(63, 63);
        isTag(64, 0);
        isTag(65, 1);
        isTag(65535, 63);
        isTag(65536, 0);
    }

    private static void aboveItModulo65537() {
        isKind(65537, Forms.SHORT);
        isKind(65538, Forms.LONG);
        isKind(65539, Forms.SQUARE);
        isKind(65540, Forms.TAGS);
        isTag(131072, 63);
        isTag(131073, 0);
        isKind(131074, Forms.SHORT);
        isKind(131075, Forms.LONG);
        isKind(32767 * 65537 + 2, Forms.SQUARE);
        isTag(Integer.MAX_VALUE, 0);
    }

    /** 65606 is 69 modulo 65537: 5 modulo 64, where 65606 itself would be 6. */
    private static void keyOfTheFormThatIsLeft() {
        isTag(65606, 5);
        isTag(131073 + 65, 0);
        isTag(Integer.MAX_VALUE - 1, 63);
    }

    private static void isKind(int form, int kind) {
        Due.same("the row of form " + form, rowOf(form, kind), Forms.ROWS[kind]);
    }

    private static void isTag(int form, int key) {
        String want = TAG_START + sixBits(28 ^ key) + sixBits(15 ^ key) + "11";
        Due.same("the row of form " + form, rowOf(form, Forms.TAGS), want);
    }

    private static String rowOf(int form, int kind) {
        BarCodes codes = new BarCodes(form);
        for (int what = 0; what < Forms.WIDTHS[kind].length; what++) {
            int field = what;
            Due.taken("field " + what + " of form " + form,
                    () -> codes.field(field, Forms.VALUES[kind][field]));
        }
        Due.throwing("a field more of form " + form, IndexOutOfBoundsException.class,
                () -> codes.field(Forms.WIDTHS[kind].length, 0));
        return Rows.text(codes, Math.max(0, codes.make()));
    }

    private static String sixBits(int symbol) {
        return Integer.toBinaryString(64 + symbol).substring(1);
    }

    private static void noFieldHasAValue(int form) {
        BarCodes codes = new BarCodes(form);
        Due.same("make() of a new object of form " + form, codes.make(), BarCodes.NONE);
    }

    private static void nothingIsMadeOrTold(int form) {
        BarCodes codes = new BarCodes(form);
        String of = " of a new object of form " + form;
        Due.throwing("bar(0)" + of, ArrayIndexOutOfBoundsException.class, () -> codes.bar(0));
        Due.same("value(0)" + of, codes.value(0), BarCodes.NONE);
        Due.same("mended()" + of, codes.mended(), BarCodes.NONE);
        Due.same("mask()" + of, codes.mask(), BarCodes.NONE);
        Due.holds("not turned()" + of, !codes.turned());
    }

    private static void nothingIsRead(int form) {
        BarCodes codes = new BarCodes(form);
        String of = " of a new object of form " + form;
        for (int k = 1; k <= 200; k++) {
            Due.taken("read " + k + of, () -> codes.read(0));
        }
        Due.throwing("read 201" + of, IllegalStateException.class, () -> codes.read(0));
        Due.same("parse()" + of, new BarCodes(form).parse(), BarCodes.NONE);
    }
}
