/** Promise 3: a row is made of the fields. */
public final class MakeTest {
    public static void main(String[] args) {
        rowsOfEachForm();
        nothingWithoutEachField();
        rowStays();
        Due.end();
    }

    private static void rowsOfEachForm() {
        row("1301100331002100033333333311331213211101", 0, 5, 1000000, 262143);
        row("1333300000000000020000000133001311123301", 0, 63, 0, 131073);
        row("1300100000000000200000000000000300000000000000001010310103313100212001", 1, 1, 2, 3, 4);
        row("1320122233031323322222222222222201020310111213202102203102101123300001",
                1, 33, 0xABCDEF, 0x2AAAAAAA, 0x123456789L);
        row("1000000000000000000000001100001111", 3, 0);
        row("1010101100001111000101111100110011", 3, 0x2B0F1);
        row("1010101100001111000101101100100011", 7, 0x2B0F1);
        row("1010101100001111000101110000111111", 64, 0x2B0F1);
        row("1010101100001111000101111000110111", 66, 0x2B0F1);
        row("1010101100001111000101110000111111", 65536, 0x2B0F1);
        row("101010101010110101010100101010101011110101010100101010101011110101010100"
                + "101010101011110101010100101010101011110101010100101010100001111111111111", 2, 0, 0);
        row("101010101010101010101010110101010101101010101010110101010101101010101100"
                + "100111001001110110000010100010010101110010111110101100000001111111111111",
                2, 4095, 68719476735L);
        row("101010101010101011010010110111011011100110100010110100110001110001001000"
                + "111111000111101101111000101110001011110011111010100100101111111111111111",
                2, 1445, 4886718345L);
    }

    private static void row(String want, int form, long... values) {
        BarCodes codes = Rows.given(form, values);
        Due.same("make() of form " + form, codes.make(), want.length());
        Due.same("the row of form " + form, Rows.text(codes, want.length()), want);
    }

    private static void nothingWithoutEachField() {
        int[] counts = {3, 4, 2, 1};
        for (int form = 0; form < counts.length; form++) {
            for (int without = 0; without < counts[form]; without++) {
                BarCodes codes = new BarCodes(form);
                for (int what = 0; what < counts[form]; what++) {
                    if (what != without) {
                        codes.field(what, 0);
                    }
                }
                Due.same("make() of form " + form + " without field " + without, codes.make(), BarCodes.NONE);
            }
        }
    }

    private static void rowStays() {
        BarCodes codes = Rows.given(0, 5, 1000000, 262143);
        int length = codes.make();
        String first = Rows.text(codes, length);
        Rows.give(codes, 63, 0, 131073);
        Due.same("the row when fields got other values", Rows.text(codes, length), first);
        codes.make();
        Due.same("the row made anew", Rows.text(codes, length), Rows.of(0, 63, 0, 131073));
        String second = Rows.text(codes, length);
        Rows.parse(codes, first);
        Due.same("the row when another one was read", Rows.text(codes, length), second);
        codes.make();
        Due.same("the fields to make of when another row was read", Rows.text(codes, length), second);
    }
}
