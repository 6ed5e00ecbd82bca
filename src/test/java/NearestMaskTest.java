/** Terms, READING: the mask is that whose four bits differ least from those read, the least of several. */
public final class NearestMaskTest {
    private static final long[][] OF_MASK = {{0, 0}, {1445, 4886718345L}, {6, 32529829701L}, {1765, 39369751052L}};
    private static final String[] MASK_BITS = {"0000", "0111", "1011", "1100"};

    public static void main(String[] args) {
        asTheyAre();
        oneWrong();
        leastOfSeveral();
        erasedOnesDifferNot();
        for (int k = 0; k < 81; k++) {
            everyFourBits(k);
        }
        Due.end();
    }

    private static void asTheyAre() {
        nearest("0000", 0);
        nearest("0111", 1);
        nearest("1011", 2);
        nearest("1100", 3);
    }

    private static void oneWrong() {
        nearest("0001", 0);
        nearest("0010", 0);
        nearest("0110", 1);
        nearest("0101", 1);
        nearest("1001", 2);
        nearest("1010", 2);
        nearest("1101", 3);
        nearest("1110", 3);
    }

    /** One from two or more of them: 0 1 0 0 from 0 and 3, 0 0 1 1 and 1 1 1 1 from 1 and 2. */
    private static void leastOfSeveral() {
        nearest("0100", 0);
        nearest("1000", 0);
        nearest("0011", 1);
        nearest("1111", 1);
    }

    private static void erasedOnesDifferNot() {
        nearest("????", 0);
        nearest("???0", 0);
        nearest("???1", 1);
        nearest("??1?", 1);
        nearest("?1??", 1);
        nearest("1???", 2);
        nearest("11??", 3);
        nearest("1?0?", 3);
        nearest("?00?", 0);
        nearest("?10?", 3);
        nearest("1??1", 2);
    }

    /** A row of this mask is right with such bits, and those of the others are read with it, not with their own. */
    private static void nearest(String bits, int mask) {
        for (int drawn = 0; drawn < 4; drawn++) {
            String row = Rows.of(2, OF_MASK[drawn]);
            String read = row.substring(0, 127) + bits + row.substring(131);
            boolean right = drawn == mask;
            seen("direct with " + bits, read, drawn, right, mask);
            seen("turned with " + bits, Rows.turned(2, read), drawn, right, mask);
        }
    }

    private static void seen(String what, String read, int drawn, boolean right, int mask) {
        BarCodes codes = new BarCodes(2);
        Due.same("parse() of mask " + drawn + " " + what, Rows.parse(codes, read), right ? 2 : BarCodes.NONE);
        Due.same("mask() of mask " + drawn + " " + what, codes.mask(), right ? mask : BarCodes.NONE);
        Due.same("mended() of mask " + drawn + " " + what, codes.mended(), right ? 0 : BarCodes.NONE);
        if (right) {
            Due.same("the fields " + what, Rows.fields(codes, 2), Rows.text(OF_MASK[mask]));
        }
    }

    private static void everyFourBits(int number) {
        StringBuilder bits = new StringBuilder();
        for (int left = number, k = 0; k < 4; k++, left /= 3) {
            bits.append("01?".charAt(left % 3));
        }
        int best = 0;
        for (int mask = 1; mask < 4; mask++) {
            best = differing(bits, mask) < differing(bits, best) ? mask : best;
        }
        nearest(bits.toString(), best);
    }

    private static int differing(CharSequence bits, int mask) {
        int count = 0;
        for (int k = 0; k < 4; k++) {
            count += bits.charAt(k) != '?' && bits.charAt(k) != MASK_BITS[mask].charAt(k) ? 1 : 0;
        }
        return count;
    }
}
