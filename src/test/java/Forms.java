/** What the document tells of the forms, as tables for the tests: the kind 3 is that of all TAGS. */
final class Forms {
    static final int KINDS = 4;
    static final int SHORT = 0;
    static final int LONG = 1;
    static final int SQUARE = 2;
    static final int TAGS = 3;
    static final int[][] WIDTHS = {{6, 24, 18}, {6, 24, 30, 36}, {12, 36}, {18}};
    static final int[] CHECKS = {4, 6, 8, 2};
    static final int[] SYMBOLS = {12, 22, 16, 5};
    static final int[] LENGTHS = {40, 70, 144, 34};
    static final int[] HIGHEST = {3, 3, 1, 1};

    /** Three sets of values for each kind; those of the squares have the masks 1, 3 and 2. */
    static final long[][] VALUES = {
        {5, 1000000, 262143}, {33, 0xABCDEF, 0x2AAAAAAA, 0x123456789L}, {1445, 4886718345L}, {0x2B0F1},
    };
    static final long[][] OTHERS = {{63, 0, 131073}, {1, 2, 3, 4}, {1765, 39369751052L}, {12345}};
    static final long[][] THIRDS = {{32, 9, 1}, {7, 77, 777, 7777}, {6, 32529829701L}, {262143}};

    /** The rows of VALUES in the forms 0 to 3. */
    static final String[] ROWS = {
        "1301100331002100033333333311331213211101",
        "1320122233031323322222222222222201020310111213202102203102101123300001",
        "101010101010101011010010110111011011100110100010110100110001110001001000"
                + "111111000111101101111000101110001011110011111010100100101111111111111111",
        "1010101100001111000101111100110011",
    };

    private Forms() {
    }

    static int kind(int form) {
        return Math.min(form, TAGS);
    }

    static long most(int kind, int what) {
        return (1L << WIDTHS[kind][what]) - 1;
    }

    static boolean fourHeights(int kind) {
        return kind == SHORT || kind == LONG;
    }

    /** Where the parts of a symbol are in a row. */
    static int[] places(int kind, int symbol) {
        int parts = fourHeights(kind) ? 3 : 6;
        int[] places = new int[parts];
        for (int part = 0; part < parts; part++) {
            int k = symbol * parts + part;
            places[part] = kind == SQUARE ? 12 * (1 + k / 10) + 1 + k % 10 : 2 + k;
        }
        return places;
    }
}
