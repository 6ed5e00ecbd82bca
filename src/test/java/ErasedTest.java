/** Promise 6: one that is erased was read. */
public final class ErasedTest {
    public static void main(String[] args) {
        for (int form = 0; form < 4; form++) {
            atMost200(form);
        }
        takesAPlace();
        Due.end();
    }

    private static void atMost200(int form) {
        BarCodes codes = new BarCodes(form);
        for (int k = 0; k < 199; k++) {
            codes.erased();
        }
        codes.read(0);
        Due.throwing("erased() when 200 were read", IllegalStateException.class, codes::erased);
        Due.throwing("read(0) when 200 were read", IllegalStateException.class, () -> codes.read(0));
        Due.same("parse() of 200", codes.parse(), BarCodes.NONE);
        Due.same("erased() when nothing is read", Due.thrownBy(codes::erased), "nothing thrown");
    }

    private static void takesAPlace() {
        String row = Rows.of(0, 1, 2, 3);
        BarCodes codes = new BarCodes(0);
        Due.same("parse() with one erased", Rows.parse(codes, Rows.erased(row, 5)), 3);
        Due.same("one symbol was mended", codes.mended(), 1);
        Due.same("parse() with one erased too many", Rows.parse(codes, row + "?"), BarCodes.NONE);
        Due.same("parse() of erased ones alone", Rows.parse(codes, "?".repeat(40)), BarCodes.NONE);
    }
}
