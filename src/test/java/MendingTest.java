import java.util.Random;

/** Promises 7 to 9: as many wrong and erased symbols as can be mended, anywhere and of any kind, are. */
public final class MendingTest {
    private static final int[] FORMS = {0, 1, 2, 3, 44};
    private static final int[][] WIDTHS = {{6, 24, 18}, {6, 24, 30, 36}, {12, 36}, {18}};
    private static final int[] SYMBOLS = {12, 22, 16, 5};
    private static final int[] CHECKS = {4, 6, 8, 2};
    private static final int TRIES = 400;

    private final Random random = new Random(1);

    public static void main(String[] args) {
        MendingTest test = new MendingTest();
        for (int form : FORMS) {
            int checks = CHECKS[Math.min(form, 3)];
            for (int erased = 0; erased <= checks; erased++) {
                for (int wrong = 0; 2 * wrong + erased <= checks; wrong++) {
                    test.mends(form, erased, wrong);
                }
            }
        }
        Due.end();
    }

    private void mends(int form, int erased, int wrong) {
        int kind = Math.min(form, 3);
        for (int k = 0; k < TRIES; k++) {
            long[] values = new long[WIDTHS[kind].length];
            for (int what = 0; what < values.length; what++) {
                values[what] = random.nextLong() >>> 64 - WIDTHS[kind][what];
            }
            BarCodes codes = new BarCodes(form);
            String row = spoilt(kind, Rows.of(form, values), erased, wrong);
            String of = " of form " + form + " read as " + row;
            Due.same("parse()" + of, Rows.parse(codes, row), values.length);
            Due.same("mended()" + of, codes.mended(), erased + wrong);
            for (int what = 0; what < values.length; what++) {
                Due.same("value(" + what + ")" + of, codes.value(what), values[what]);
            }
        }
    }

    /** Other symbols than they are, and erased ones, at places that differ. */
    private String spoilt(int kind, String row, int erased, int wrong) {
        int[] symbols = random.ints(0, SYMBOLS[kind]).distinct().limit(erased + wrong).toArray();
        String result = row;
        for (int k = 0; k < symbols.length; k++) {
            int[] places = Forms.places(kind, symbols[k]);
            if (k < erased) {
                result = Rows.erased(result, places[random.nextInt(places.length)]);
            } else {
                result = otherSymbol(kind, result, places);
            }
        }
        return result;
    }

    private String otherSymbol(int kind, String row, int[] places) {
        int bits = kind < 2 ? 2 : 1;
        int change = random.nextInt(1, 64);
        String result = row;
        for (int part = 0; part < places.length; part++) {
            int turned = change >> 6 - bits * (part + 1) & (1 << bits) - 1;
            result = Rows.with(result, places[part], (char) ('0' + (row.charAt(places[part]) - '0' ^ turned)));
        }
        return result;
    }
}
