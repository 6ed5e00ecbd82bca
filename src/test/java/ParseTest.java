/** Promise 7: what was read is a row, if it is as long as it must be and right. */
public final class ParseTest {
    private static final long[][] VALUES = {
        {5, 1000000, 262143}, {33, 0xABCDEF, 0x2AAAAAAA, 0x123456789L}, {1445, 4886718345L}, {0x2B0F1},
    };
    private static final int[] SYMBOLS = {12, 22, 16, 5};
    private static final int[] CHECKS = {4, 6, 8, 2};

    public static void main(String[] args) {
        for (int form = 0; form < VALUES.length; form++) {
            lengths(form);
            wrongAndErased(form);
            nothingIsReadThen(form);
            latestRightStays(form);
            frameAlone(form);
        }
        erasedSymbolOnce();
        notFarther();
        tagsOfOtherForms();
        spoiltMaskBits();
        Due.end();
    }

    /** Where the parts of a symbol are in a row of the form. */
    static int[] places(int form, int symbol) {
        int parts = form < 2 ? 3 : 6;
        int[] places = new int[parts];
        for (int part = 0; part < parts; part++) {
            int k = symbol * parts + part;
            places[part] = form == 2 ? 12 * (1 + k / 10) + 1 + k % 10 : 2 + k;
        }
        return places;
    }

    private static void lengths(int form) {
        BarCodes codes = new BarCodes(form);
        String row = Rows.of(form, VALUES[form]);
        Due.same("parse() of nothing", codes.parse(), BarCodes.NONE);
        Due.same("parse() of one too few", Rows.parse(codes, row.substring(1)), BarCodes.NONE);
        Due.same("parse() of one too many", Rows.parse(codes, row + "0"), BarCodes.NONE);
        Due.same("parse() of 200", Rows.parse(codes, row + "0".repeat(200 - row.length())), BarCodes.NONE);
        Due.same("parse() of a row", Rows.parse(codes, row), VALUES[form].length);
        same("the fields", form, codes);
    }

    private static void same(String what, int form, BarCodes codes) {
        for (int k = 0; k < VALUES[form].length; k++) {
            Due.same(what + ": value(" + k + ") of form " + form, codes.value(k), VALUES[form][k]);
        }
    }

    /** Each number of erased symbols with as many wrong ones as can be, and with one more. */
    private static void wrongAndErased(int form) {
        for (int erased = 0; erased <= CHECKS[form]; erased++) {
            for (int start = 0; start < SYMBOLS[form]; start++) {
                int wrong = (CHECKS[form] - erased) / 2;
                BarCodes codes = new BarCodes(form);
                String row = spoilt(form, start, erased, wrong);
                String what = erased + " erased and " + wrong + " wrong from " + start + " on in form " + form;
                Due.same("parse() of " + what, Rows.parse(codes, row), VALUES[form].length);
                same(what, form, codes);
                Due.same("mended() of " + what, codes.mended(), erased + wrong);
            }
        }
        BarCodes codes = new BarCodes(form);
        String tooMany = spoilt(form, 0, CHECKS[form] + 1, 0);
        Due.same("parse() with an erased symbol too many", Rows.parse(codes, tooMany), BarCodes.NONE);
        Due.same("value(0) then", codes.value(0), BarCodes.NONE);
    }

    private static String spoilt(int form, int start, int erased, int wrong) {
        String row = Rows.of(form, VALUES[form]);
        for (int k = 0; k < erased + wrong; k++) {
            int[] places = places(form, (start + k) % SYMBOLS[form]);
            if (k < erased) {
                row = Rows.erased(row, places[k % places.length]);
            } else {
                row = Rows.spoilt(row, places[k % places.length], places[(k + 1) % places.length]);
            }
        }
        return row;
    }

    private static void nothingIsReadThen(int form) {
        BarCodes codes = new BarCodes(form);
        String row = Rows.of(form, VALUES[form]);
        Rows.parse(codes, row);
        Due.same("parse() a second time", codes.parse(), BarCodes.NONE);
        Rows.parse(codes, row.substring(1));
        Due.same("parse() when a short row was refused", Rows.parse(codes, row), VALUES[form].length);
        Rows.parse(codes, "?".repeat(row.length()));
        Due.same("parse() when a row was not right", Rows.parse(codes, row), VALUES[form].length);
    }

    private static void latestRightStays(int form) {
        BarCodes codes = new BarCodes(form);
        String row = Rows.of(form, VALUES[form]);
        int[] first = places(form, 0);
        Rows.parse(codes, Rows.turned(form, Rows.erased(row, first[0])));
        int mask = codes.mask();
        Due.same("parse() of erased ones", Rows.parse(codes, "?".repeat(row.length())), BarCodes.NONE);
        Due.same("parse() of nothing", codes.parse(), BarCodes.NONE);
        same("when others were not right", form, codes);
        Due.same("mended() when others were not right", codes.mended(), 1);
        Due.same("mask() when others were not right", codes.mask(), mask);
        Due.holds("turned() when others were not right", codes.turned());
    }

    /** A frame that is all wrong or erased is no reason that a row be not right. */
    private static void frameAlone(int form) {
        String row = Rows.of(form, VALUES[form]);
        int length = row.length();
        String erased = Rows.erased(row, 0, 1, length - 2, length - 1);
        BarCodes codes = new BarCodes(form);
        Due.same("parse() with erased ends", Rows.parse(codes, erased), VALUES[form].length);
        same("with erased ends", form, codes);
        Due.same("mended() with erased ends", codes.mended(), 0);
    }

    private static void erasedSymbolOnce() {
        BarCodes codes = new BarCodes(3);
        String row = Rows.erased(Rows.of(3, VALUES[3]), 2, 3, 4, 5, 6, 7);
        Due.same("parse() with one symbol erased in each module", Rows.parse(codes, row), 1);
        Due.same("mended() then", codes.mended(), 1);
    }

    /** The places told by a locator must all be in the row; here the nearest word is farther than R tells. */
    private static void notFarther() {
        String zero = Rows.of(64, 0);
        int right = 0;
        for (int a = 1; a < 64; a++) {
            for (int b = 1; b < 64; b++) {
                String row = bits(zero, 2, a);
                row = bits(row, 20, b);
                BarCodes codes = new BarCodes(64);
                int answer = Rows.parse(codes, row);
                if (answer == 1) {
                    right++;
                    Due.same("mended() of a tag with two wrong symbols", codes.mended(), 1);
                    Due.holds("the tag is another one", codes.value(0) != 0);
                }
            }
        }
        // One wrong symbol more makes a word of weight 3: as many as there are those that have their
        // first and fourth symbol, 63 for each of the three places of the other one.
        Due.same("tags with two wrong symbols that are near to another word", right, 3 * 63);
    }

    private static String bits(String row, int start, int symbol) {
        String result = row;
        for (int k = 0; k < 6; k++) {
            result = Rows.with(result, start + k, (char) ('0' + (symbol >> 5 - k & 1)));
        }
        return result;
    }

    private static void tagsOfOtherForms() {
        BarCodes codes = new BarCodes(4);
        Due.same("a tag of form 68", Rows.parse(codes, Rows.of(68, 9)), 1);
        Due.same("mended() of it", codes.mended(), 0);
        Due.same("a tag of form 65536", Rows.parse(new BarCodes(65536), Rows.of(64, 9)), 1);
        // Both check symbols differ: two wrong ones, more than can be mended, and no other word is near.
        Due.same("a tag of form 5", Rows.parse(codes, Rows.of(5, 9)), BarCodes.NONE);
    }

    /** The mask is the nearest one: 0 0 0 0, 0 1 1 1, 1 0 1 1 and 1 1 0 0 are told apart with one wrong. */
    private static void spoiltMaskBits() {
        String row = Rows.of(2, VALUES[2]);
        BarCodes codes = new BarCodes(2);
        Due.same("the bits of mask 1", row.substring(127, 131), "0111");
        for (int place = 127; place < 131; place++) {
            if (place != 127) {
                Due.same("parse() with a mask bit erased", Rows.parse(codes, Rows.erased(row, place)), 2);
                Due.same("mended() then", codes.mended(), 0);
                same("a mask bit erased", 2, codes);
            }
        }
        Due.same("parse() with mask bits 0 1 1 0, as near to 1 as no other",
                Rows.parse(codes, Rows.with(row, 130, '0')), 2);
        Due.same("mask() then", codes.mask(), 1);
    }
}
