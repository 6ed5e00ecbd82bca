/** What it is: an object is used for at most 512 calls, and the 512th still answers; later ones are free. */
public final class LastCallTest {
    private static final int BEFORE_LAST = 511;

    public static void main(String[] args) {
        for (int form = 0; form < Forms.KINDS; form++) {
            lookingLast(form);
            makingLast(form);
            parsingLast(form);
            refusedLast(form);
        }
        readingLast();
        Due.end();
    }

    /** Made, and a row read right, then calls that change nothing up to the last but one. */
    private static BarCodes usedUp(int form) {
        long[] values = Forms.VALUES[form];
        BarCodes codes = Rows.given(form, values);
        codes.make();
        Rows.parse(codes, Forms.ROWS[form]);
        idle(codes, values.length + 1 + Forms.LENGTHS[form] + 1);
        return codes;
    }

    private static void idle(BarCodes codes, int calls) {
        for (int k = calls; k < BEFORE_LAST; k++) {
            codes.over(k, 1);
        }
    }

    private static void lookingLast(int form) {
        long[] values = Forms.VALUES[form];
        Due.same("the last call, value(0)", usedUp(form).value(0), values[0]);
        Due.same("the last call, mended()", usedUp(form).mended(), 0);
        Due.same("the last call, mask()", usedUp(form).mask(), form == Forms.SQUARE ? 1 : BarCodes.NONE);
        Due.holds("the last call, not turned()", !usedUp(form).turned());
        Due.same("the last call, bar(0)", usedUp(form).bar(0), 1);
        Due.same("the last call, over(3, 2)", usedUp(form).over(3, 2), 32);
    }

    private static void makingLast(int form) {
        Due.same("the last call, make()", usedUp(form).make(), Forms.LENGTHS[form]);
        BarCodes codes = new BarCodes(form);
        idle(codes, 0);
        Due.same("the last call, make() without fields", codes.make(), BarCodes.NONE);
    }

    private static void parsingLast(int form) {
        BarCodes codes = new BarCodes(form);
        idle(codes, Forms.LENGTHS[form]);
        Rows.read(codes, Forms.ROWS[form]);
        Due.same("the last call, parse()", codes.parse(), Forms.VALUES[form].length);
    }

    private static void refusedLast(int form) {
        Due.throwing("the last call, field(0, -1)", IllegalArgumentException.class,
                () -> usedUp(form).field(0, -1));
        Due.throwing("the last call, bar(-1)", ArrayIndexOutOfBoundsException.class, () -> usedUp(form).bar(-1));
        Due.throwing("the last call, value(-1)", IndexOutOfBoundsException.class, () -> usedUp(form).value(-1));
        Due.throwing("the last call, over(1, 0)", ArithmeticException.class, () -> usedUp(form).over(1, 0));
        Due.taken("the last call, field(0, 1)", () -> usedUp(form).field(0, 1));
        Due.taken("the last call, read(1)", () -> usedUp(form).read(1));
        Due.taken("the last call, erased()", () -> usedUp(form).erased());
    }

    /** Twelve SHORT rows and nineteen bars more: 511 calls. */
    private static void readingLast() {
        BarCodes codes = new BarCodes(Forms.SHORT);
        String other = Rows.turned(Forms.SHORT, Forms.ROWS[Forms.SHORT]);
        for (int k = 0; k < 12; k++) {
            int parsed = Rows.parse(codes, k % 2 == 0 ? other : Forms.ROWS[Forms.SHORT]);
            Due.same("parse() of row " + k, parsed, 3);
        }
        Rows.read(codes, other.substring(0, 19));
        Due.same("the last call, parse() of nineteen bars", codes.parse(), BarCodes.NONE);
    }
}
