/** Promise 6: one that is erased was read. */
public final class ErasedTest {
    private static final int[] FORMS = {0, 1, 2, 3, 65536};

    public static void main(String[] args) {
        for (int form : FORMS) {
            twoHundred(form);
            twoHundredOfBoth(form);
            twoHundredAndOne(form);
            twoHundredAgainWhenParsed(form);
            takesAPlace(form);
        }
        Due.end();
    }

    private static void twoHundred(int form) {
        BarCodes codes = new BarCodes(form);
        for (int k = 1; k <= 200; k++) {
            Due.taken("erased() " + k + " of form " + form, codes::erased);
        }
        Due.throwing("erased() 201 of form " + form, IllegalStateException.class, codes::erased);
        Due.throwing("read(0) then", IllegalStateException.class, () -> codes.read(0));
        Due.same("parse() of 200 erased ones", codes.parse(), BarCodes.NONE);
    }

    /** Those read and those erased count alike. */
    private static void twoHundredOfBoth(int form) {
        BarCodes codes = new BarCodes(form);
        Rows.read(codes, "0?".repeat(99) + "0");
        Due.taken("erased() as the 200th of form " + form, codes::erased);
        Due.throwing("erased() as the 201st", IllegalStateException.class, codes::erased);
        Due.throwing("read(1) as the 201st", IllegalStateException.class, () -> codes.read(1));
        BarCodes other = new BarCodes(form);
        Rows.read(other, "?0".repeat(99) + "?");
        Due.taken("read(1) as the 200th of form " + form, () -> other.read(1));
        Due.throwing("erased() as the 201st then", IllegalStateException.class, other::erased);
    }

    private static void twoHundredAndOne(int form) {
        Unchanged.refused("erased() when 200 were read", States.full(form), IllegalStateException.class,
                BarCodes::erased);
    }

    private static void twoHundredAgainWhenParsed(int form) {
        BarCodes codes = new BarCodes(form);
        Rows.parse(codes, "?".repeat(200));
        for (int k = 1; k <= 200; k++) {
            Due.taken("erased() " + k + " when nothing was read", codes::erased);
        }
        Due.throwing("erased() 201 then", IllegalStateException.class, codes::erased);
    }

    private static void takesAPlace(int form) {
        int kind = Forms.kind(form);
        String row = Rows.of(form, Forms.VALUES[kind]);
        int place = Forms.places(kind, 0)[0];
        BarCodes codes = new BarCodes(form);
        Due.same("parse() with one erased", Rows.parse(codes, Rows.erased(row, place)), Forms.VALUES[kind].length);
        Due.same("one symbol was mended", codes.mended(), 1);
        BarCodes longer = new BarCodes(form);
        Due.same("parse() with an erased one too many", Rows.parse(longer, row + "?"), BarCodes.NONE);
        BarCodes shorter = new BarCodes(form);
        Due.same("parse() with an erased one for the last bar",
                Rows.parse(shorter, row.substring(0, row.length() - 1) + "?"), Forms.VALUES[kind].length);
    }
}
