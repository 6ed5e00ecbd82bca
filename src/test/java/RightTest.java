/** Terms, READING: a row is RIGHT if 2 v + e is not more than R, v symbols being wrong and e erased. */
public final class RightTest {
    private static final int[] FORMS = {0, 1, 2, 3, 65536};

    public static void main(String[] args) {
        for (int form : FORMS) {
            int checks = Forms.CHECKS[Forms.kind(form)];
            for (int erased = 0; erased <= checks + 1; erased++) {
                for (int wrong = 0; 2 * wrong + erased <= checks; wrong++) {
                    right(form, erased, wrong);
                }
                if ((checks + 1 - erased) % 2 == 0) {
                    notRight(form, erased, (checks + 1 - erased) / 2);
                } else {
                    perhapsAnotherWord(form, erased, (checks + 2 - erased) / 2);
                }
            }
            moreErased(form);
            erasedByOneOrAllParts(form);
            eachSymbol(form);
            turnedOnes(form);
            oneAfterAnother(form);
        }
        nearToAnotherWord();
        Due.end();
    }

    /** From a symbol on, round the row's end, some are erased and those behind them wrong. */
    private static String spoilt(int form, int start, int erased, int wrong) {
        int kind = Forms.kind(form);
        String row = Rows.of(form, Forms.VALUES[kind]);
        for (int k = 0; k < erased + wrong; k++) {
            int[] places = Forms.places(kind, (start + k) % Forms.SYMBOLS[kind]);
            if (k < erased) {
                row = Rows.erased(row, places[k % places.length]);
            } else {
                row = Rows.spoilt(row, places[k % places.length], places[(k + 1) % places.length]);
            }
        }
        return row;
    }

    private static void right(int form, int erased, int wrong) {
        for (int start = 0; start < Forms.SYMBOLS[Forms.kind(form)]; start++) {
            reads(erased + " erased and " + wrong + " wrong from " + start + " on", form,
                    spoilt(form, start, erased, wrong), erased + wrong);
        }
    }

    private static void reads(String what, int form, String row, int mended) {
        reads(what, form, new BarCodes(form), row, mended);
    }

    private static void reads(String what, int form, BarCodes codes, String row, int mended) {
        long[] values = Forms.VALUES[Forms.kind(form)];
        Due.same("parse() of " + what + " in form " + form, Rows.parse(codes, row), values.length);
        Due.same("the fields of " + what, Rows.fields(codes, values.length), Rows.text(values));
        Due.same("mended() of " + what, codes.mended(), mended);
    }

    /** One more than R: words differ in R + 1 symbols, so no other one can be near enough. */
    private static void notRight(int form, int erased, int wrong) {
        for (int start = 0; start < Forms.SYMBOLS[Forms.kind(form)]; start++) {
            String what = erased + " erased and " + wrong + " wrong from " + start + " on";
            refused(what, form, spoilt(form, start, erased, wrong));
        }
    }

    private static void refused(String what, int form, String row) {
        Unchanged.by(what, States.idle(form), codes ->
                Due.same("parse() of " + what + " in form " + form, Rows.parse(codes, row), BarCodes.NONE));
    }

    /** Two more than R: the model, which tries all words, tells whether another one is near enough. */
    private static void perhapsAnotherWord(int form, int erased, int wrong) {
        for (int start = 0; start < Forms.SYMBOLS[Forms.kind(form)]; start++) {
            String row = spoilt(form, start, erased, wrong);
            PlainModel model = new PlainModel(form);
            BarCodes codes = new BarCodes(form);
            for (int i = 0; i < row.length(); i++) {
                if (row.charAt(i) == '?') {
                    model.erased();
                } else {
                    model.read(row.charAt(i) - '0');
                }
            }
            String what = " of " + erased + " erased and " + wrong + " wrong in form " + form;
            Due.same("parse()" + what, Rows.parse(codes, row), model.parse());
            Due.same("mended()" + what, codes.mended(), model.mended());
            Due.same("value(0)" + what, codes.value(0), model.value(0));
        }
    }

    private static void moreErased(int form) {
        int kind = Forms.kind(form);
        for (int erased = Forms.CHECKS[kind] + 2; erased <= Forms.SYMBOLS[kind]; erased++) {
            refused(erased + " erased", form, spoilt(form, 0, erased, 0));
        }
    }

    private static void erasedByOneOrAllParts(int form) {
        int kind = Forms.kind(form);
        for (int symbol = 0; symbol < Forms.SYMBOLS[kind]; symbol++) {
            String row = Rows.of(form, Forms.VALUES[kind]);
            for (int place : Forms.places(kind, symbol)) {
                reads("module " + place + " erased", form, Rows.erased(row, place), 1);
            }
            reads("symbol " + symbol + " erased", form, Rows.erased(row, Forms.places(kind, symbol)), 1);
        }
    }

    private static void eachSymbol(int form) {
        int kind = Forms.kind(form);
        String row = Rows.of(form, Forms.VALUES[kind]);
        for (int symbol = 0; symbol < Forms.SYMBOLS[kind]; symbol++) {
            for (int place : Forms.places(kind, symbol)) {
                reads("module " + place + " wrong", form, Rows.spoilt(row, place), 1);
            }
        }
    }

    private static void turnedOnes(int form) {
        int kind = Forms.kind(form);
        int checks = Forms.CHECKS[kind];
        reads("as many wrong as can be, turned", form,
                Rows.turned(kind, spoilt(form, 1, 0, checks / 2)), checks / 2);
        reads("as many erased as can be, turned", form, Rows.turned(kind, spoilt(form, 1, checks, 0)), checks);
        refused("one more erased, turned", form, Rows.turned(kind, spoilt(form, 1, checks + 1, 0)));
    }

    /** What was mended in one row, or could not be, is forgotten in the next: as many as 512 calls have room for. */
    private static void oneAfterAnother(int form) {
        int kind = Forms.kind(form);
        int checks = Forms.CHECKS[kind];
        int[][] erasedAndWrong = {{checks, 0}, {0, checks / 2}, {checks + 1, 0}, {checks - 2, 1}, {1, checks / 2},
            {0, 1}, {checks, 0}, {0, 0}, {1, checks / 2 - 1}, {0, checks / 2 + 1}, {0, checks / 2}, {1, 0}};
        int rows = 512 / (Forms.LENGTHS[kind] + Forms.WIDTHS[kind].length + 2);
        for (int first = 0; first < erasedAndWrong.length; first++) {
            BarCodes codes = new BarCodes(form);
            for (int k = 0; k < rows; k++) {
                int[] next = erasedAndWrong[(first + k) % erasedAndWrong.length];
                String row = spoilt(form, 2 * k, next[0], next[1]);
                if (next[0] + 2 * next[1] <= checks) {
                    reads("row " + k + " from " + first + " on", form, codes, row, next[0] + next[1]);
                } else {
                    Rows.parse(codes, row);
                }
            }
        }
    }

    /**
     * Two wrong symbols of a tag are near to another word if one more makes a word of weight 3: as many as
     * there are those that have their first and fourth symbol, 63 for each of three places.
     */
    private static void nearToAnotherWord() {
        String zero = Rows.of(64, 0);
        int right = 0;
        for (int a = 1; a < 64; a++) {
            for (int b = 1; b < 64; b++) {
                BarCodes codes = new BarCodes(64);
                if (Rows.parse(codes, bits(bits(zero, 2, a), 20, b)) == 1) {
                    right++;
                    Due.same("mended() of a tag with two wrong symbols", codes.mended(), 1);
                    Due.holds("the tag is another one", codes.value(0) != 0);
                }
            }
        }
        Due.same("tags with two wrong symbols that are near to another word", right, 3 * 63);
    }

    private static String bits(String row, int start, int symbol) {
        String six = Integer.toBinaryString(64 + symbol).substring(1);
        return row.substring(0, start) + six + row.substring(start + 6);
    }
}
