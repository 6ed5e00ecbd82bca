/** Promise 1: codes of a form; no field has a value, nothing is read. */
public final class NewObjectTest {
    public static void main(String[] args) {
        int[] forms = {0, 1, 2, 3, 64, 65536, -1, Integer.MIN_VALUE, 65537, 65538, 65539, 65540, Integer.MAX_VALUE};
        for (int form : forms) {
            isEmpty(form);
        }
        whichForm();
        Due.end();
    }

    private static void isEmpty(int form) {
        BarCodes codes = new BarCodes(form);
        String of = " of a new object of form " + form;
        Due.same("make()" + of, codes.make(), BarCodes.NONE);
        Due.throwing("bar(0)" + of, ArrayIndexOutOfBoundsException.class, () -> codes.bar(0));
        Due.same("value(0)" + of, codes.value(0), BarCodes.NONE);
        Due.same("mended()" + of, codes.mended(), BarCodes.NONE);
        Due.same("mask()" + of, codes.mask(), BarCodes.NONE);
        Due.holds("not turned()" + of, !codes.turned());
        for (int k = 0; k < 200; k++) {
            codes.read(0);
        }
        Due.throwing("a 201st read" + of, IllegalStateException.class, () -> codes.read(0));
    }

    private static void whichForm() {
        lengthOf(0, 40);
        lengthOf(1, 70);
        lengthOf(2, 144);
        lengthOf(3, 34);
        lengthOf(-1, 40);
        lengthOf(Integer.MIN_VALUE, 40);
        lengthOf(65536, 34);
        lengthOf(65537, 40);
        lengthOf(65538, 70);
        lengthOf(65539, 144);
        lengthOf(2 * 65537 + 1, 70);
        Due.same("form 65540", Rows.of(65540, 0x2B0F1), Rows.of(3, 0x2B0F1));
        Due.same("form 65537 + 63", Rows.of(65537 + 63, 0x2B0F1), Rows.of(63, 0x2B0F1));
        Due.same("the greatest form", Rows.of(Integer.MAX_VALUE, 7), Rows.of(Integer.MAX_VALUE % 65537, 7));
    }

    private static void lengthOf(int form, int want) {
        BarCodes codes = new BarCodes(form);
        for (int what = 0; what < 4; what++) {
            int field = what;
            Due.thrownBy(() -> codes.field(field, 0));
        }
        Due.same("make() of form " + form, codes.make(), want);
    }
}
