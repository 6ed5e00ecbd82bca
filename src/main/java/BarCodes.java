import java.util.Arrays;

/**
 * Codes as rows of bars, as squares of modules and as tags: made of fields, and read again
 * from either side though some symbols are wrong or erased.
 */
public final class BarCodes {
    public static final int NONE = -1;

    private static final int MOST_READ = 200;
    private static final int HIGHEST_FORM = 65536;

    private final Form form;
    private final CheckCode code;
    private final long[] given;
    private final int[] made;
    private boolean anyMade = false;
    private final int[] seen = new int[MOST_READ];
    private int seenCount = 0;
    private final int[] word;
    private final boolean[] lost;
    private final long[] told;
    private int toldMended = NONE;
    private boolean toldTurned = false;
    private int latestMask = NONE;

    public BarCodes(int form) {
        this.form = new Form(formNumber(form));
        code = new CheckCode(this.form.symbols, this.form.checks);
        given = new long[this.form.widths.length];
        told = new long[this.form.widths.length];
        Arrays.fill(given, NONE);
        Arrays.fill(told, NONE);
        made = new int[this.form.rowLength];
        word = new int[this.form.symbols];
        lost = new boolean[this.form.symbols];
    }

    public void field(int what, long v) throws IndexOutOfBoundsException, IllegalArgumentException {
        if (what < 0 || what >= given.length) {
            throw new IndexOutOfBoundsException("there is no such field");
        }
        if (v < 0 || v >> form.widths[what] != 0) {
            throw new IllegalArgumentException("the value does not fit the field");
        }
        given[what] = v;
    }

    public int make() {
        for (int what = 0; what < given.length; what++) {
            if (given[what] == NONE) {
                return NONE;
            }
        }
        form.putFields(given, word);
        code.complete(word);
        if (form.kind == Form.SQUARE) {
            latestMask = bestMask();
        }
        form.draw(word, latestMask, made);
        anyMade = true;
        return made.length;
    }

    public int bar(int i) throws ArrayIndexOutOfBoundsException {
        if (!anyMade || i < 0 || i >= made.length) {
            throw new ArrayIndexOutOfBoundsException("there is no such bar");
        }
        return made[i];
    }

    public void read(int height) throws IllegalArgumentException, IllegalStateException {
        if (height < 0 || height > form.highestBar) {
            throw new IllegalArgumentException("no bar of this form is like that");
        }
        if (seenCount >= MOST_READ) {
            throw new IllegalStateException("no more can be read");
        }
        seen[seenCount] = height;
        seenCount++;
    }

    public void erased() throws IllegalStateException {
        if (seenCount >= MOST_READ) {
            throw new IllegalStateException("no more can be read");
        }
        seen[seenCount] = Form.ERASED;
        seenCount++;
    }

    public int parse() {
        int count = seenCount;
        seenCount = 0;
        if (count != form.rowLength) {
            return NONE;
        }
        boolean isTurned = form.looksTurned(seen);
        if (isTurned) {
            form.turn(seen);
        }
        int seenMask = form.kind == Form.SQUARE ? Square.nearestMask(seen) : NONE;
        form.takeWord(seen, seenMask, word, lost);
        int mends = code.mend(word, lost);
        if (mends == NONE) {
            return NONE;
        }
        form.takeFields(word, told);
        toldMended = mends;
        toldTurned = isTurned;
        latestMask = seenMask;
        return told.length;
    }

    public long value(int what) throws IndexOutOfBoundsException {
        if (what < 0 || what >= told.length) {
            throw new IndexOutOfBoundsException("there is no such field");
        }
        return told[what];
    }

    public int mended() {
        return toldMended;
    }

    public int mask() {
        return latestMask;
    }

    public int over(int a, int b) throws ArithmeticException {
        int divisor = b & Elements.ALL_BITS;
        if (divisor == 0) {
            throw new ArithmeticException("division by 0");
        }
        return Elements.product(a & Elements.ALL_BITS, Elements.inverse(divisor));
    }

    public boolean turned() {
        return toldTurned;
    }

    private static int formNumber(int form) {
        if (form < 0) {
            return 0;
        }
        return form > HIGHEST_FORM ? form % (HIGHEST_FORM + 1) : form;
    }

    /** Tries the masks on the row itself: make draws it anew with the mask that is chosen. */
    private int bestMask() {
        int best = NONE;
        int least = 0;
        for (int mask = 0; mask < Square.MASKS; mask++) {
            form.draw(word, mask, made);
            int penalty = Square.penalty(made);
            if (best == NONE || penalty < least) {
                least = penalty;
                best = mask;
            }
        }
        return best;
    }

    /** The field of 64. */
    private static final class Elements {
        static final int BITS = 6;
        static final int ALL_BITS = 63;
        static final int A = 2;
        private static final int MODULUS = 0b1000011;

        static int product(int a, int b) {
            int sum = 0;
            int shifted = a;
            for (int k = 0; k < BITS; k++) {
                if ((b >> k & 1) != 0) {
                    sum ^= shifted;
                }
                shifted <<= 1;
                if (shifted > ALL_BITS) {
                    shifted ^= MODULUS;
                }
            }
            return sum;
        }

        /** The power 62, as the power 63 of each element but 0 is 1; of 0 it is 0. */
        static int inverse(int a) {
            int result = 1;
            int square = a;
            for (int k = 1; k < BITS; k++) {
                square = product(square, square);
                result = product(result, square);
            }
            return result;
        }

        /** The polynomial whose coefficient of x to the power k is at index k. */
        static int valueAt(int x, int[] polynomial) {
            int sum = 0;
            for (int k = polynomial.length - 1; k >= 0; k--) {
                sum = product(sum, x) ^ polynomial[k];
            }
            return sum;
        }
    }

    /** The words of one form, and the mending of what is near to one of them. */
    private static final class CheckCode {
        private final int length;
        private final int checks;
        private final int[] generator;
        private final int[] powers;
        private final int[] syndromes;
        private final int[] locator;
        private final int[] former;
        private final int[] next;
        private final int[] evaluator;
        private final int[] slope;

        CheckCode(int length, int checks) {
            this.length = length;
            this.checks = checks;
            generator = new int[checks + 1];
            powers = new int[length];
            syndromes = new int[checks];
            locator = new int[checks + 1];
            former = new int[checks + 1];
            next = new int[checks + 1];
            evaluator = new int[checks];
            slope = new int[checks];
            fillPowers();
            fillGenerator();
        }

        /** The last symbol is the coefficient of the power 0. */
        private void fillPowers() {
            int power = 1;
            for (int i = length - 1; i >= 0; i--) {
                powers[i] = power;
                power = Elements.product(power, Elements.A);
            }
        }

        private void fillGenerator() {
            generator[0] = 1;
            int root = 1;
            for (int j = 0; j < checks; j++) {
                root = Elements.product(root, Elements.A);
                for (int k = checks; k > 0; k--) {
                    generator[k] = generator[k - 1] ^ Elements.product(root, generator[k]);
                }
                generator[0] = Elements.product(root, generator[0]);
            }
        }

        /** Puts the check symbols, what the division by the generator leaves, behind the others. */
        void complete(int[] word) {
            int first = length - checks;
            for (int i = first; i < length; i++) {
                word[i] = 0;
            }
            for (int i = 0; i < first; i++) {
                int factor = word[i] ^ word[first];
                for (int k = 0; k < checks; k++) {
                    int moved = k + 1 < checks ? word[first + k + 1] : 0;
                    word[first + k] = moved ^ Elements.product(factor, generator[checks - 1 - k]);
                }
            }
        }

        /**
         * Makes the word of what was read, in place: how many symbols were erased or wrong, or
         * NONE when no word is near enough.
         */
        int mend(int[] word, boolean[] lost) {
            int erasures = countLost(lost);
            if (erasures > checks) {
                return NONE;
            }
            fillSyndromes(word);
            locateLost(lost);
            locateWrong(erasures);
            fillEvaluator();
            fillSlope();
            int wrong = correct(word, lost);
            fillSyndromes(word);
            // Too many wrong symbols give a locator that is none: what came out is looked at again.
            boolean right = allZero(syndromes) && 2 * wrong + erasures <= checks;
            return right ? wrong + erasures : NONE;
        }

        private int countLost(boolean[] lost) {
            int count = 0;
            for (int i = 0; i < length; i++) {
                count += lost[i] ? 1 : 0;
            }
            return count;
        }

        private void fillSyndromes(int[] word) {
            int root = 1;
            for (int j = 0; j < checks; j++) {
                root = Elements.product(root, Elements.A);
                int sum = 0;
                for (int i = 0; i < length; i++) {
                    sum = Elements.product(sum, root) ^ word[i];
                }
                syndromes[j] = sum;
            }
        }

        private static boolean allZero(int[] elements) {
            for (int k = 0; k < elements.length; k++) {
                if (elements[k] != 0) {
                    return false;
                }
            }
            return true;
        }

        /** The locator is 0 at the inverse of the power of each symbol that it tells. */
        private void locateLost(boolean[] lost) {
            Arrays.fill(locator, 0);
            locator[0] = 1;
            for (int i = 0; i < length; i++) {
                if (lost[i]) {
                    for (int k = checks; k > 0; k--) {
                        locator[k] ^= Elements.product(powers[i], locator[k - 1]);
                    }
                }
            }
        }

        /** Berlekamp and Massey's steps, begun with the erased symbols as known ones. */
        private void locateWrong(int erasures) {
            System.arraycopy(locator, 0, former, 0, checks + 1);
            int degree = erasures;
            for (int step = erasures; step < checks; step++) {
                multiplyFormerByX();
                int gap = gapAt(step);
                if (gap != 0) {
                    boolean grows = 2 * degree <= step + erasures;
                    addFormer(gap, grows);
                    degree = grows ? step + 1 + erasures - degree : degree;
                }
            }
        }

        private void multiplyFormerByX() {
            for (int k = checks; k > 0; k--) {
                former[k] = former[k - 1];
            }
            former[0] = 0;
        }

        /** What the locator says of this syndrome, and the syndrome itself, differ by this. */
        private int gapAt(int step) {
            int sum = 0;
            for (int k = 0; k <= step; k++) {
                sum ^= Elements.product(locator[k], syndromes[step - k]);
            }
            return sum;
        }

        private void addFormer(int gap, boolean grows) {
            for (int k = 0; k <= checks; k++) {
                next[k] = locator[k] ^ Elements.product(gap, former[k]);
            }
            if (grows) {
                int scale = Elements.inverse(gap);
                for (int k = 0; k <= checks; k++) {
                    former[k] = Elements.product(scale, locator[k]);
                }
            }
            System.arraycopy(next, 0, locator, 0, checks + 1);
        }

        /** The product of syndromes and locator, modulo x to the power R. */
        private void fillEvaluator() {
            for (int k = 0; k < checks; k++) {
                evaluator[k] = gapAt(k);
            }
        }

        /** The locator's formal derivative: modulo 2 the even powers' terms vanish. */
        private void fillSlope() {
            for (int k = 0; k < checks; k++) {
                slope[k] = k % 2 == 0 ? locator[k + 1] : 0;
            }
        }

        /** Forney's formula at each symbol that the locator tells; how many that were not erased changed. */
        private int correct(int[] word, boolean[] lost) {
            int wrong = 0;
            for (int i = 0; i < length; i++) {
                int x = Elements.inverse(powers[i]);
                if (Elements.valueAt(x, locator) == 0) {
                    int divisor = Elements.valueAt(x, slope);
                    int change = Elements.product(Elements.valueAt(x, evaluator), Elements.inverse(divisor));
                    word[i] ^= change;
                    wrong += change != 0 && !lost[i] ? 1 : 0;
                }
            }
            return wrong;
        }
    }

    /** What the forms have each for itself, and where in a row the symbols are. */
    private static final class Form {
        static final int SQUARE = 2;
        static final int ERASED = -1;
        private static final int SHORT = 0;
        private static final int LONG = 1;
        private static final int TAGS = 3;
        private static final int UP = 1;
        private static final int DOWN = 2;
        private static final int END_BARS = 2;
        private static final int[] SHORT_WIDTHS = {6, 24, 18};
        private static final int[] LONG_WIDTHS = {6, 24, 30, 36};
        private static final int[] SQUARE_WIDTHS = {12, 36};
        private static final int[] TAG_WIDTHS = {18};
        private static final int[] FOUR_HEIGHT_ENDS = {1, 3, 0, 1};
        private static final int[] TAG_ENDS = {1, 0, 1, 1};

        final int kind;
        final int[] widths;
        final int checks;
        final int symbols;
        final int rowLength;
        final int highestBar;
        private final boolean fourHeights;
        private final int barBits;
        private final int symbolBars;
        private final int checkKey;

        Form(int number) {
            kind = number < TAGS ? number : TAGS;
            widths = widthsOf(kind);
            checks = checksOf(kind);
            symbols = dataSymbols(widths) + checks;
            fourHeights = kind == SHORT || kind == LONG;
            barBits = fourHeights ? 2 : 1;
            symbolBars = fourHeights ? 3 : 6;
            highestBar = fourHeights ? 3 : 1;
            rowLength = kind == SQUARE ? Square.MODULES : symbols * symbolBars + 2 * END_BARS;
            checkKey = kind == TAGS ? number % 64 : 0;
        }

        private static int[] widthsOf(int kind) {
            switch (kind) {
                case SHORT: return SHORT_WIDTHS;
                case LONG: return LONG_WIDTHS;
                case SQUARE: return SQUARE_WIDTHS;
                default: return TAG_WIDTHS;
            }
        }

        private static int checksOf(int kind) {
            switch (kind) {
                case SHORT: return 4;
                case LONG: return 6;
                case SQUARE: return 8;
                default: return 2;
            }
        }

        private static int dataSymbols(int[] widths) {
            int bits = 0;
            for (int width : widths) {
                bits += width;
            }
            return bits / Elements.BITS;
        }

        /** Each width is some sixes of bits, so that no symbol has bits of two fields. */
        void putFields(long[] values, int[] word) {
            int s = 0;
            for (int what = 0; what < widths.length; what++) {
                for (int shift = widths[what] - Elements.BITS; shift >= 0; shift -= Elements.BITS) {
                    word[s] = (int) (values[what] >> shift) & Elements.ALL_BITS;
                    s++;
                }
            }
        }

        void takeFields(int[] word, long[] values) {
            int s = 0;
            for (int what = 0; what < widths.length; what++) {
                long value = 0;
                for (int bit = 0; bit < widths[what]; bit += Elements.BITS) {
                    value = value << Elements.BITS | word[s];
                    s++;
                }
                values[what] = value;
            }
        }

        void draw(int[] word, int mask, int[] row) {
            for (int i = 0; i < rowLength; i++) {
                row[i] = frameAt(i);
            }
            for (int s = 0; s < symbols; s++) {
                int symbol = word[s] ^ keyOf(s);
                for (int part = 0; part < symbolBars; part++) {
                    int place = placeOf(s * symbolBars + part);
                    int shift = Elements.BITS - (part + 1) * barBits;
                    row[place] = (symbol >> shift & highestBar) ^ turnAt(place, mask);
                }
            }
            if (kind == SQUARE) {
                Square.drawMask(mask, row);
            }
        }

        void takeWord(int[] row, int mask, int[] word, boolean[] lost) {
            for (int s = 0; s < symbols; s++) {
                int symbol = 0;
                lost[s] = false;
                for (int part = 0; part < symbolBars; part++) {
                    int place = placeOf(s * symbolBars + part);
                    if (row[place] == ERASED) {
                        lost[s] = true;
                    } else {
                        symbol |= (row[place] ^ turnAt(place, mask)) << Elements.BITS - (part + 1) * barBits;
                    }
                }
                word[s] = lost[s] ? 0 : symbol ^ keyOf(s);
            }
        }

        boolean looksTurned(int[] row) {
            int direct = 0;
            int turned = 0;
            for (int i = 0; i < rowLength; i++) {
                int due = frameAt(i);
                if (due != NONE) {
                    direct += row[i] == due ? 1 : 0;
                    turned += fromOtherSide(row[rowLength - 1 - i]) == due ? 1 : 0;
                }
            }
            return turned > direct;
        }

        void turn(int[] row) {
            for (int i = 0, j = rowLength - 1; i <= j; i++, j--) {
                int first = row[i];
                row[i] = fromOtherSide(row[j]);
                row[j] = fromOtherSide(first);
            }
        }

        private int fromOtherSide(int bar) {
            if (fourHeights && (bar == UP || bar == DOWN)) {
                return UP + DOWN - bar;
            }
            return bar;
        }

        private int keyOf(int symbol) {
            return symbol < symbols - checks ? 0 : checkKey;
        }

        private int placeOf(int part) {
            return kind == SQUARE ? Square.placeOf(part) : END_BARS + part;
        }

        private int turnAt(int place, int mask) {
            return kind == SQUARE && Square.isTurned(place, mask) ? 1 : 0;
        }

        /** The frame's bar at a place of the row, NONE where there is none. */
        private int frameAt(int place) {
            if (kind == SQUARE) {
                return Square.frameAt(place);
            }
            int[] ends = fourHeights ? FOUR_HEIGHT_ENDS : TAG_ENDS;
            if (place < END_BARS) {
                return ends[place];
            }
            int beforeEnd = rowLength - END_BARS;
            return place < beforeEnd ? NONE : ends[END_BARS + place - beforeEnd];
        }
    }

    /** Frame, masks and penalty of a square. */
    private static final class Square {
        static final int MODULES = 144;
        static final int MASKS = 4;
        private static final int SIDE = 12;
        private static final int INNER_SIDE = 10;
        private static final int WORD_BITS = 96;
        private static final int MASK_BITS = 4;
        private static final int SHORTEST_RUN = 4;
        private static final int[] MASK_SIGNS = {0b0000, 0b0111, 0b1011, 0b1100};

        static int frameAt(int place) {
            int row = place / SIDE;
            int column = place % SIDE;
            if (column == 0 || row == SIDE - 1) {
                return 1;
            }
            if (row == 0) {
                return 1 - column % 2;
            }
            return column == SIDE - 1 ? 1 - row % 2 : NONE;
        }

        /** The place of the inner module that is the one numbered so. */
        static int placeOf(int inner) {
            return (1 + inner / INNER_SIDE) * SIDE + 1 + inner % INNER_SIDE;
        }

        static boolean isTurned(int place, int mask) {
            int row = place / SIDE;
            int column = place % SIDE;
            switch (mask) {
                case 0: return (column + row) % 2 == 0;
                case 1: return row % 2 == 0;
                case 2: return column % 3 == 0;
                default: return column * row % 3 == 0;
            }
        }

        static void drawMask(int mask, int[] modules) {
            for (int k = 0; k < MASK_BITS; k++) {
                modules[placeOf(WORD_BITS + k)] = signBit(mask, k);
            }
        }

        static int nearestMask(int[] modules) {
            int nearest = 0;
            int least = MASK_BITS + 1;
            for (int mask = 0; mask < MASKS; mask++) {
                int distance = 0;
                for (int k = 0; k < MASK_BITS; k++) {
                    int module = modules[placeOf(WORD_BITS + k)];
                    distance += module != Form.ERASED && module != signBit(mask, k) ? 1 : 0;
                }
                if (distance < least) {
                    least = distance;
                    nearest = mask;
                }
            }
            return nearest;
        }

        private static int signBit(int mask, int k) {
            return mask < 0 || mask >= MASKS ? 0 : MASK_SIGNS[mask] >> MASK_BITS - 1 - k & 1;
        }

        static int penalty(int[] modules) {
            int sum = 0;
            int dark = 0;
            for (int k = 0; k < SIDE; k++) {
                sum += runPenalty(modules, k * SIDE, 1) + runPenalty(modules, k, SIDE);
            }
            for (int place = 0; place < MODULES; place++) {
                sum += startsBlock(modules, place) ? 3 : 0;
                dark += modules[place];
            }
            return sum + Math.abs(MODULES - 2 * dark) / 2;
        }

        private static int runPenalty(int[] modules, int start, int step) {
            int sum = 0;
            int run = 0;
            for (int k = 0; k < SIDE; k++) {
                run++;
                int place = start + k * step;
                boolean ends = k == SIDE - 1 || modules[place] != modules[place + step];
                if (ends) {
                    sum += run >= SHORTEST_RUN ? run - 2 : 0;
                    run = 0;
                }
            }
            return sum;
        }

        /** Whether the two by two modules of which this is the first are alike. */
        private static boolean startsBlock(int[] modules, int place) {
            if (place % SIDE == SIDE - 1 || place / SIDE == SIDE - 1) {
                return false;
            }
            int module = modules[place];
            return module == modules[place + 1] && module == modules[place + SIDE]
                    && module == modules[place + SIDE + 1];
        }
    }
}
