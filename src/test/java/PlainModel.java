import java.util.ArrayList;
import java.util.Arrays;
import java.util.List;

/**
 * The document once more, written another way than the class: check symbols and mended words come
 * from linear equations, and wrong symbols are found by trying all sets of places.
 */
final class PlainModel {
    private static final int ERASED = -1;
    private static final int[][] WIDTHS = {{6, 24, 18}, {6, 24, 30, 36}, {12, 36}, {18}};
    private static final int[] CHECKS = {4, 6, 8, 2};
    private static final String[] MASK_BITS = {"0000", "0111", "1011", "1100"};
    private static final int[][] PRODUCTS = products();

    private final int number;
    private final int kind;
    private final int[] widths;
    private final int checks;
    private final int data;
    private final int symbols;
    private final int length;
    private final Long[] given;
    private int[] made = null;
    private final List<Integer> seen = new ArrayList<>();
    private long[] told = null;
    private int mends = -1;
    private int mask = -1;
    private boolean turned = false;

    PlainModel(int form) {
        number = form < 0 ? 0 : form > 65536 ? form % 65537 : form;
        kind = Math.min(number, 3);
        widths = WIDTHS[kind];
        checks = CHECKS[kind];
        data = Arrays.stream(widths).sum() / 6;
        symbols = data + checks;
        length = kind == 2 ? 144 : kind == 3 ? 6 * symbols + 4 : 3 * symbols + 4;
        given = new Long[widths.length];
    }

    int rowLength() {
        return length;
    }

    int fieldWidth(int what) {
        return widths[what];
    }

    int fieldCount() {
        return widths.length;
    }

    void field(int what, long v) {
        if (what < 0 || what >= widths.length) {
            throw new IndexOutOfBoundsException();
        }
        if (v < 0 || Long.toBinaryString(v).length() > widths[what]) {
            throw new IllegalArgumentException();
        }
        given[what] = v;
    }

    int make() {
        if (Arrays.asList(given).contains(null)) {
            return -1;
        }
        int[] word = wordOf();
        if (kind != 2) {
            made = plainRow(word);
            return made.length;
        }
        int least = Integer.MAX_VALUE;
        for (int m = 0; m < 4; m++) {
            int[] square = square(word, m);
            if (penalty(square) < least) {
                least = penalty(square);
                made = square;
                mask = m;
            }
        }
        return made.length;
    }

    int bar(int i) {
        if (made == null || i < 0 || i >= made.length) {
            throw new ArrayIndexOutOfBoundsException();
        }
        return made[i];
    }

    void read(int height) {
        if (height < 0 || height > (kind < 2 ? 3 : 1)) {
            throw new IllegalArgumentException();
        }
        erased();
        seen.set(seen.size() - 1, height);
    }

    void erased() {
        if (seen.size() == 200) {
            throw new IllegalStateException();
        }
        seen.add(ERASED);
    }

    int parse() {
        int[] row = seen.stream().mapToInt(Integer::intValue).toArray();
        seen.clear();
        if (row.length != length) {
            return -1;
        }
        int[] other = otherSide(row);
        boolean fromOther = framed(other) > framed(row);
        int[] upright = fromOther ? other : row;
        int seenMask = kind == 2 ? nearestMask(upright) : -1;
        int[] symbolsRead = symbolsOf(upright, seenMask);
        int[] word = nearestWord(symbolsRead);
        if (word == null) {
            return -1;
        }
        told = fieldsOf(word);
        mends = 0;
        for (int s = 0; s < symbols; s++) {
            mends += word[s] == symbolsRead[s] ? 0 : 1;
        }
        turned = fromOther;
        mask = seenMask;
        return widths.length;
    }

    long value(int what) {
        if (what < 0 || what >= widths.length) {
            throw new IndexOutOfBoundsException();
        }
        return told == null ? -1 : told[what];
    }

    int mended() {
        return mends;
    }

    int mask() {
        return mask;
    }

    int over(int a, int b) {
        if (b % 64 == 0) {
            throw new ArithmeticException();
        }
        for (int q = 0; q < 64; q++) {
            if (PRODUCTS[q][b & 63] == (a & 63)) {
                return q;
            }
        }
        throw new IllegalStateException("there is no quotient");
    }

    boolean turned() {
        return turned;
    }

    private static int[][] products() {
        int[][] table = new int[64][64];
        for (int a = 0; a < 64; a++) {
            for (int b = 0; b < 64; b++) {
                table[a][b] = OverTest.product(a, b);
            }
        }
        return table;
    }

    private static int inverse(int a) {
        int b = 1;
        while (PRODUCTS[a][b] != 1) {
            b++;
        }
        return b;
    }

    private static int power(int a, int n) {
        int result = 1;
        for (int k = 0; k < n; k++) {
            result = PRODUCTS[result][a];
        }
        return result;
    }

    private int[] wordOf() {
        StringBuilder bits = new StringBuilder();
        for (int what = 0; what < widths.length; what++) {
            String digits = Long.toBinaryString(given[what]);
            bits.append("0".repeat(widths[what] - digits.length())).append(digits);
        }
        int[] word = new int[symbols];
        int[] unknown = new int[checks];
        for (int s = 0; s < data; s++) {
            word[s] = Integer.parseInt(bits.substring(6 * s, 6 * s + 6), 2);
        }
        for (int k = 0; k < checks; k++) {
            unknown[k] = data + k;
        }
        return solved(word, unknown);
    }

    private long[] fieldsOf(int[] word) {
        StringBuilder bits = new StringBuilder();
        for (int s = 0; s < data; s++) {
            bits.append(Integer.toBinaryString(64 + word[s]).substring(1));
        }
        long[] fields = new long[widths.length];
        int start = 0;
        for (int what = 0; what < widths.length; what++) {
            fields[what] = Long.parseLong(bits.substring(start, start + widths[what]), 2);
            start += widths[what];
        }
        return fields;
    }

    /** The word that is as told but at the unknown places, null if there is none. */
    private int[] solved(int[] known, int[] unknown) {
        int[] word = known.clone();
        for (int place : unknown) {
            word[place] = 0;
        }
        int count = unknown.length;
        int[][] equations = new int[checks][count + 1];
        for (int j = 0; j < checks; j++) {
            int root = power(2, j + 1);
            for (int s = 0; s < symbols; s++) {
                equations[j][count] ^= PRODUCTS[word[s]][power(root, symbols - 1 - s)];
            }
            for (int k = 0; k < count; k++) {
                equations[j][k] = power(root, symbols - 1 - unknown[k]);
            }
        }
        if (!eliminate(equations, count)) {
            return null;
        }
        for (int k = 0; k < count; k++) {
            word[unknown[k]] = equations[k][count];
        }
        return word;
    }

    private boolean eliminate(int[][] equations, int count) {
        for (int k = 0; k < count; k++) {
            int pivot = k;
            while (equations[pivot][k] == 0) {
                pivot++;
            }
            int[] swapped = equations[k];
            equations[k] = equations[pivot];
            equations[pivot] = swapped;
            int scale = inverse(equations[k][k]);
            for (int c = 0; c <= count; c++) {
                equations[k][c] = PRODUCTS[scale][equations[k][c]];
            }
            for (int j = 0; j < checks; j++) {
                int factor = equations[j][k];
                for (int c = 0; j != k && c <= count; c++) {
                    equations[j][c] ^= PRODUCTS[factor][equations[k][c]];
                }
            }
        }
        for (int j = count; j < checks; j++) {
            if (equations[j][count] != 0) {
                return false;
            }
        }
        return true;
    }

    private int[] nearestWord(int[] read) {
        int erased = 0;
        int[] unknown = new int[symbols];
        for (int s = 0; s < symbols; s++) {
            if (read[s] == ERASED) {
                unknown[erased] = s;
                erased++;
            }
        }
        for (int wrong = 0; 2 * wrong + erased <= checks; wrong++) {
            int[] word = tried(read, Arrays.copyOf(unknown, erased + wrong), erased, 0);
            if (word != null) {
                return word;
            }
        }
        return null;
    }

    /** Tries all sets of places for the unknown ones from this one on. */
    private int[] tried(int[] read, int[] unknown, int next, int from) {
        if (next == unknown.length) {
            return solved(read, unknown);
        }
        for (int s = from; s < symbols; s++) {
            if (read[s] != ERASED) {
                unknown[next] = s;
                int[] word = tried(read, unknown, next + 1, s + 1);
                if (word != null) {
                    return word;
                }
            }
        }
        return null;
    }

    private int key(int symbol) {
        return kind == 3 && symbol >= data ? number % 64 : 0;
    }

    private int[] plainRow(int[] word) {
        StringBuilder row = new StringBuilder(kind == 3 ? "10" : "13");
        for (int s = 0; s < symbols; s++) {
            String bits = Integer.toBinaryString(64 + (word[s] ^ key(s))).substring(1);
            for (int k = 0; k < 6; k += kind == 3 ? 1 : 2) {
                row.append(kind == 3 ? bits.substring(k, k + 1) : "" + Integer.parseInt(bits.substring(k, k + 2), 2));
            }
        }
        row.append(kind == 3 ? "11" : "01");
        return row.chars().map(c -> c - '0').toArray();
    }

    private static boolean masks(int m, int row, int column) {
        boolean[] turns = {(column + row) % 2 == 0, row % 2 == 0, column % 3 == 0, row * column % 3 == 0};
        return turns[m];
    }

    private static int squareFrame(int row, int column) {
        if (column == 0 || row == 11) {
            return 1;
        }
        if (row == 0) {
            return column % 2 == 0 ? 1 : 0;
        }
        return column == 11 ? (row % 2 == 0 ? 1 : 0) : ERASED;
    }

    private int[] square(int[] word, int m) {
        StringBuilder bits = new StringBuilder();
        for (int symbol : word) {
            bits.append(Integer.toBinaryString(64 + symbol).substring(1));
        }
        int[] modules = new int[144];
        int k = 0;
        for (int row = 0; row < 12; row++) {
            for (int column = 0; column < 12; column++) {
                int module = squareFrame(row, column);
                if (module == ERASED && k < 96) {
                    module = bits.charAt(k++) - '0' ^ (masks(m, row, column) ? 1 : 0);
                } else if (module == ERASED) {
                    module = MASK_BITS[m].charAt(k++ - 96) - '0';
                }
                modules[12 * row + column] = module;
            }
        }
        return modules;
    }

    static int penalty(int[] modules) {
        int sum = 0;
        int dark = 0;
        for (int a = 0; a < 12; a++) {
            StringBuilder row = new StringBuilder();
            StringBuilder column = new StringBuilder();
            for (int b = 0; b < 12; b++) {
                row.append(modules[12 * a + b]);
                column.append(modules[12 * b + a]);
                dark += modules[12 * a + b];
            }
            sum += runs(row.toString()) + runs(column.toString());
        }
        for (int row = 0; row < 11; row++) {
            for (int column = 0; column < 11; column++) {
                int at = 12 * row + column;
                int four = modules[at] + modules[at + 1] + modules[at + 12] + modules[at + 13];
                sum += four % 4 == 0 ? 3 : 0;
            }
        }
        return sum + Math.abs(144 - 2 * dark) / 2;
    }

    private static int runs(String line) {
        int sum = 0;
        for (String run : line.split("(?<=0)(?=1)|(?<=1)(?=0)")) {
            sum += run.length() >= 4 ? run.length() - 2 : 0;
        }
        return sum;
    }

    private int[] otherSide(int[] row) {
        int[] result = new int[length];
        for (int i = 0; i < length; i++) {
            int bar = row[length - 1 - i];
            result[i] = kind < 2 && bar == 1 ? 2 : kind < 2 && bar == 2 ? 1 : bar;
        }
        return result;
    }

    private int framed(int[] row) {
        int count = 0;
        if (kind == 2) {
            for (int i = 0; i < 144; i++) {
                int due = squareFrame(i / 12, i % 12);
                count += due != ERASED && due == row[i] ? 1 : 0;
            }
            return count;
        }
        int[] places = {0, 1, length - 2, length - 1};
        int[] due = kind == 3 ? new int[] {1, 0, 1, 1} : new int[] {1, 3, 0, 1};
        for (int k = 0; k < 4; k++) {
            count += row[places[k]] == due[k] ? 1 : 0;
        }
        return count;
    }

    private int nearestMask(int[] modules) {
        int best = 0;
        int least = 5;
        for (int m = 0; m < 4; m++) {
            int differ = 0;
            for (int k = 0; k < 4; k++) {
                int module = modules[12 * 10 + 7 + k];
                differ += module != ERASED && module != MASK_BITS[m].charAt(k) - '0' ? 1 : 0;
            }
            if (differ < least) {
                least = differ;
                best = m;
            }
        }
        return best;
    }

    private int[] symbolsOf(int[] row, int m) {
        List<Integer> parts = new ArrayList<>();
        for (int i = 0; i < length; i++) {
            if (kind == 2 && squareFrame(i / 12, i % 12) == ERASED) {
                parts.add(row[i] == ERASED ? ERASED : masks(m, i / 12, i % 12) ? 1 - row[i] : row[i]);
            } else if (kind != 2 && i >= 2 && i < length - 2) {
                parts.add(row[i]);
            }
        }
        int perSymbol = kind < 2 ? 3 : 6;
        int[] result = new int[symbols];
        for (int s = 0; s < symbols; s++) {
            for (int part : parts.subList(s * perSymbol, (s + 1) * perSymbol)) {
                boolean lost = result[s] == ERASED || part == ERASED;
                result[s] = lost ? ERASED : result[s] * (kind < 2 ? 4 : 2) + part;
            }
            result[s] = result[s] == ERASED ? ERASED : result[s] ^ key(s);
        }
        return result;
    }
}
