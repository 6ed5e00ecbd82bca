/** Promise 9: how many symbols were erased, or other than those of the word. */
public final class MendedTest {
    private static final int[] FORMS = {0, 1, 2, 3, 65536};

    public static void main(String[] args) {
        for (int form : FORMS) {
            noneAtFirst(form);
            noneWhenNoneWasRight(form);
            zeroWhenAllAreAlike(form);
            asManyAsCanBeErased(form);
            asManyAsCanBeWrong(form);
            staysWhenALaterOneIsNotRight(form);
            frameDoesNotCount(form);
        }
        ofLong();
        Due.end();
    }

    private static void noneAtFirst(int form) {
        Due.same("mended() of form " + form + " at first", new BarCodes(form).mended(), BarCodes.NONE);
    }

    private static void noneWhenNoneWasRight(int form) {
        BarCodes codes = Rows.given(form, Forms.VALUES[Forms.kind(form)]);
        codes.make();
        Rows.parse(codes, "?".repeat(Forms.LENGTHS[Forms.kind(form)]));
        codes.parse();
        Due.same("mended() of form " + form + " when none was right", codes.mended(), BarCodes.NONE);
    }

    private static void zeroWhenAllAreAlike(int form) {
        mends(form, row(form), 0);
        mends(form, Rows.turned(Forms.kind(form), row(form)), 0);
    }

    private static void asManyAsCanBeErased(int form) {
        int kind = Forms.kind(form);
        String row = row(form);
        for (int symbol = 0; symbol < Forms.CHECKS[kind]; symbol++) {
            row = Rows.erased(row, Forms.places(kind, symbol)[symbol % 3]);
            mends(form, row, symbol + 1);
        }
        BarCodes codes = new BarCodes(form);
        String oneMore = Rows.erased(row, Forms.places(kind, Forms.CHECKS[kind])[0]);
        Due.same("parse() with one more erased", Rows.parse(codes, oneMore), BarCodes.NONE);
        Due.same("mended() then", codes.mended(), BarCodes.NONE);
    }

    private static void asManyAsCanBeWrong(int form) {
        int kind = Forms.kind(form);
        String row = row(form);
        for (int symbol = 0; symbol < Forms.CHECKS[kind] / 2; symbol++) {
            row = Rows.spoilt(row, Forms.places(kind, symbol));
            mends(form, row, symbol + 1);
        }
    }

    private static void staysWhenALaterOneIsNotRight(int form) {
        int kind = Forms.kind(form);
        BarCodes codes = new BarCodes(form);
        Rows.parse(codes, Rows.erased(row(form), Forms.places(kind, 2)[1]));
        Rows.parse(codes, "?".repeat(Forms.LENGTHS[kind]));
        Rows.parse(codes, "1");
        Due.same("mended() when a later one was not right", codes.mended(), 1);
        Rows.give(codes, Forms.VALUES[kind]);
        codes.make();
        Due.same("mended() when one was made", codes.mended(), 1);
    }

    private static void frameDoesNotCount(int form) {
        String row = row(form);
        mends(form, Rows.erased(row, 0, 1, row.length() - 2, row.length() - 1), 0);
        mends(form, Rows.spoilt(row, 1), 0);
    }

    private static String row(int form) {
        return Rows.of(form, Forms.VALUES[Forms.kind(form)]);
    }

    private static void mends(int form, String row, int want) {
        long[] values = Forms.VALUES[Forms.kind(form)];
        BarCodes codes = new BarCodes(form);
        Due.same("parse() of " + row, Rows.parse(codes, row), values.length);
        Due.same("mended() of " + row, codes.mended(), want);
        Due.same("the fields of " + row, Rows.fields(codes, values.length), Rows.text(values));
    }

    private static void ofLong() {
        String row = row(1);
        mends(1, Rows.spoilt(row, 2), 1);
        mends(1, Rows.spoilt(row, 2, 3, 4), 1);
        mends(1, Rows.spoilt(row, 4, 5), 2);
        mends(1, Rows.erased(row, 2, 3, 5), 2);
        mends(1, Rows.erased(Rows.spoilt(row, 67), 2, 5, 8, 11), 5);
        mends(1, Rows.erased(Rows.spoilt(row, 65, 66, 67), 66), 1);
        mends(1, Rows.erased(Rows.spoilt(row, 64, 65, 67), 66), 2);
        mends(1, Rows.spoilt(row, 10, 30, 50), 3);
        erasedThoughAlike();
    }

    /** A symbol of zeros that is erased counts, whatever an erased one is held as. */
    private static void erasedThoughAlike() {
        BarCodes codes = new BarCodes(1);
        String row = Rows.of(1, 1, 2, 3, 4);
        Due.same("the second symbol is 0", row.substring(5, 8), "000");
        Rows.parse(codes, Rows.erased(row, 5));
        Due.same("mended() with a symbol of zeros erased", codes.mended(), 1);
        Rows.parse(codes, Rows.erased(row, 5, 6, 7));
        Due.same("mended() with all its bars erased", codes.mended(), 1);
    }
}
