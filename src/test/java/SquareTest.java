/** Terms, SQUARE: which modules are dark, where the word's bits are, and where a mask is. */
public final class SquareTest {
    private static final long[][] OF_MASK = {{0, 0}, {1445, 4886718345L}, {6, 32529829701L}, {1765, 39369751052L}};
    private static final String[] MASK_BITS = {"0000", "0111", "1011", "1100"};

    /** A full stop where the word's bits are, a letter for those that tell the mask. */
    private static final String[] PICTURE = {
        "101010101010",
        "1..........0",
        "1..........1",
        "1..........0",
        "1..........1",
        "1..........0",
        "1..........1",
        "1..........0",
        "1..........1",
        "1..........0",
        "1......mmmm1",
        "111111111111",
    };

    /** The same for each mask, with an x for a bit of the word that is turned. */
    private static final String[][] TURNED = {
        {"x.x.x.x.x.", ".x.x.x.x.x", "x.x.x.x.x.", ".x.x.x.x.x", "x.x.x.x.x.",
            ".x.x.x.x.x", "x.x.x.x.x.", ".x.x.x.x.x", "x.x.x.x.x.", ".x.x.x...."},
        {"..........", "xxxxxxxxxx", "..........", "xxxxxxxxxx", "..........",
            "xxxxxxxxxx", "..........", "xxxxxxxxxx", "..........", "xxxxxx...."},
        {"..x..x..x.", "..x..x..x.", "..x..x..x.", "..x..x..x.", "..x..x..x.",
            "..x..x..x.", "..x..x..x.", "..x..x..x.", "..x..x..x.", "..x..x...."},
        {"..x..x..x.", "..x..x..x.", "xxxxxxxxxx", "..x..x..x.", "..x..x..x.",
            "xxxxxxxxxx", "..x..x..x.", "..x..x..x.", "xxxxxxxxxx", "..x..x...."},
    };

    public static void main(String[] args) {
        for (int mask = 0; mask < 4; mask++) {
            frame(mask);
            corners(mask);
            maskBits(mask);
            turnedBits(mask);
        }
        firstAndLastBitOfTheFields();
        Due.end();
    }

    private static String square(int mask) {
        return Rows.of(2, OF_MASK[mask]);
    }

    private static void frame(int mask) {
        String row = square(mask);
        for (int place = 0; place < 144; place++) {
            char due = PICTURE[place / 12].charAt(place % 12);
            if (due == '0' || due == '1') {
                Due.same("module " + place + " of the frame", row.substring(place, place + 1), "" + due);
            }
        }
    }

    /** Column 0 and row 11 go before row 0, and that before column 11. */
    private static void corners(int mask) {
        String row = square(mask);
        Due.same("row 0, column 0", row.charAt(0), '1');
        Due.same("row 0, column 11", row.charAt(11), '0');
        Due.same("row 11, column 0", row.charAt(132), '1');
        Due.same("row 11, column 11", row.charAt(143), '1');
        Due.same("row 1, column 0", row.charAt(12), '1');
        Due.same("row 11, column 1", row.charAt(133), '1');
        Due.same("row 1, column 11", row.charAt(23), '0');
        Due.same("row 10, column 11", row.charAt(131), '1');
    }

    private static void maskBits(int mask) {
        Due.same("the bits of mask " + mask, square(mask).substring(127, 131), MASK_BITS[mask]);
    }

    /** Turned back as the picture says, the bits are those of a word. */
    private static void turnedBits(int mask) {
        String bits = wordBits(square(mask), mask);
        long first = Long.parseLong(bits.substring(0, 12), 2);
        long second = Long.parseLong(bits.substring(12, 48), 2);
        Due.same("the fields of mask " + mask, Rows.text(first, second), Rows.text(OF_MASK[mask]));
        int[] word = new int[16];
        for (int s = 0; s < 16; s++) {
            word[s] = Integer.parseInt(bits.substring(6 * s, 6 * s + 6), 2);
        }
        for (int power = 1; power <= 8; power++) {
            Due.same("the word of mask " + mask + " at A^" + power, WordTest.valueAt(power, word), 0);
        }
    }

    private static String wordBits(String row, int mask) {
        StringBuilder bits = new StringBuilder();
        for (int k = 0; k < 96; k++) {
            int module = row.charAt(12 * (1 + k / 10) + 1 + k % 10) - '0';
            boolean turned = TURNED[mask][k / 10].charAt(k % 10) == 'x';
            bits.append(turned ? 1 - module : module);
        }
        return bits.toString();
    }

    private static void firstAndLastBitOfTheFields() {
        long[][] single = {{2048, 0}, {1, 0}, {0, 1L << 35}, {0, 1}};
        int[] due = {0, 11, 12, 47};
        for (int k = 0; k < single.length; k++) {
            BarCodes codes = Rows.given(2, single[k]);
            String bits = wordBits(Rows.text(codes, codes.make()), codes.mask());
            Due.same("the first bit that is 1", bits.indexOf('1'), due[k]);
            Due.same("the last one of the fields", bits.substring(0, 48).lastIndexOf('1'), due[k]);
        }
    }
}
