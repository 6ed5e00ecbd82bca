/** Terms: the fields' bits, one behind the other, the highest of each first, and the check symbols. */
public final class WordTest {
    public static void main(String[] args) {
        for (int form : new int[] {0, 1, 3, 63, 64}) {
            for (int what = 0; what < Forms.WIDTHS[Forms.kind(form)].length; what++) {
                for (int bit = 0; bit < Forms.WIDTHS[Forms.kind(form)][what]; bit++) {
                    placeOfBit(form, what, bit);
                }
            }
            ends(form);
            zeroAtItsPowers(form);
            notZeroBesideThem(form);
        }
        Due.end();
    }

    /** The polynomial with the word's symbols as coefficients, the first one's at the highest power, at A^power. */
    static int valueAt(int power, int[] word) {
        int x = 1;
        for (int k = 0; k < power; k++) {
            x = OverTest.product(x, 2);
        }
        int sum = 0;
        for (int symbol : word) {
            sum = OverTest.product(sum, x) ^ symbol;
        }
        return sum;
    }

    private static void placeOfBit(int form, int what, int bit) {
        int kind = Forms.kind(form);
        long[] values = new long[Forms.WIDTHS[kind].length];
        values[what] = 1L << bit;
        int offset = Forms.WIDTHS[kind][what] - 1 - bit;
        for (int before = 0; before < what; before++) {
            offset += Forms.WIDTHS[kind][before];
        }
        StringBuilder want = new StringBuilder();
        for (int k = 0; k < dataBars(kind); k++) {
            boolean there = k == (kind == Forms.TAGS ? offset : offset / 2);
            want.append(!there ? 0 : kind == Forms.TAGS || offset % 2 == 1 ? 1 : 2);
        }
        String row = Rows.of(form, values);
        Due.same("the bars of bit " + bit + " of field " + what, row.substring(2, 2 + dataBars(kind)), want.toString());
    }

    private static int dataBars(int kind) {
        int symbols = Forms.SYMBOLS[kind] - Forms.CHECKS[kind];
        return symbols * (kind == Forms.TAGS ? 6 : 3);
    }

    private static void ends(int form) {
        String row = Rows.of(form, Forms.OTHERS[Forms.kind(form)]);
        int length = row.length();
        String got = row.substring(0, 2) + row.substring(length - 2);
        Due.same("the ends of form " + form, got, Forms.kind(form) == Forms.TAGS ? "1011" : "1301");
    }

    private static int[] word(int form, long... values) {
        int kind = Forms.kind(form);
        String row = Rows.of(form, values);
        int[] word = new int[Forms.SYMBOLS[kind]];
        for (int s = 0; s < word.length; s++) {
            for (int place : Forms.places(kind, s)) {
                word[s] = word[s] * (Forms.HIGHEST[kind] + 1) + row.charAt(place) - '0';
            }
            boolean check = s >= word.length - Forms.CHECKS[kind];
            word[s] ^= kind == Forms.TAGS && check ? form % 64 : 0;
        }
        return word;
    }

    private static void zeroAtItsPowers(int form) {
        int kind = Forms.kind(form);
        for (long[] values : new long[][] {Forms.VALUES[kind], Forms.OTHERS[kind], Forms.THIRDS[kind]}) {
            for (int power = 1; power <= Forms.CHECKS[kind]; power++) {
                Due.same("the word of form " + form + " at A^" + power, valueAt(power, word(form, values)), 0);
            }
        }
    }

    /** The powers of A go from 1 to R and not farther: these words happen to be other than 0 there. */
    private static void notZeroBesideThem(int form) {
        int kind = Forms.kind(form);
        int[] word = word(form, Forms.VALUES[kind]);
        Due.holds("the word of form " + form + " is not 0 at 1", valueAt(0, word) != 0);
        Due.holds("the word of form " + form + " is not 0 at A^(R + 1)",
                valueAt(Forms.CHECKS[kind] + 1, word) != 0);
    }
}
