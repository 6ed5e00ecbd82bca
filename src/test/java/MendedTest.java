/** Promise 9: how many symbols were erased, or other than those of the word. */
public final class MendedTest {
    public static void main(String[] args) {
        BarCodes codes = Rows.given(1, 1, 2, 3, 4);
        codes.make();
        Due.same("mended() when none was right", codes.mended(), BarCodes.NONE);
        String row = Rows.text(codes, 70);
        mends(codes, row, 0);
        mends(codes, Rows.spoilt(row, 0, 1, 69), 0);
        mends(codes, Rows.spoilt(row, 2), 1);
        mends(codes, Rows.spoilt(row, 2, 3, 4), 1);
        mends(codes, Rows.spoilt(row, 4, 5), 2);
        mends(codes, Rows.erased(row, 2, 3, 5), 2);
        mends(codes, Rows.erased(Rows.spoilt(row, 67), 2, 5, 8, 11), 5);
        mends(codes, Rows.erased(Rows.spoilt(row, 65, 66, 67), 66), 1);
        mends(codes, Rows.erased(Rows.spoilt(row, 64, 65, 67), 66), 2);
        mends(codes, Rows.spoilt(row, 10, 30, 50), 3);
        mends(codes, Rows.erased(row, 3, 6, 9, 12, 15, 18), 6);
        Rows.parse(codes, Rows.erased(row, 3, 6, 9, 12, 15, 18, 21));
        Due.same("mended() when a later one was not right", codes.mended(), 6);
        erasedThoughAlike(row);
        Due.end();
    }

    private static void mends(BarCodes codes, String row, int want) {
        Due.same("parse() of " + row, Rows.parse(codes, row), 4);
        Due.same("mended() of " + row, codes.mended(), want);
        Due.same("the fields of " + row, Rows.fields(codes, 4), "1 2 3 4");
    }

    /** A symbol of zeros that is erased counts, whatever an erased one is held as. */
    private static void erasedThoughAlike(String row) {
        BarCodes codes = new BarCodes(1);
        Due.same("the second symbol is 0", row.substring(5, 8), "000");
        mends(codes, Rows.erased(row, 5), 1);
        mends(codes, Rows.erased(row, 5, 6, 7), 1);
    }
}
