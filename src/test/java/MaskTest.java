/** Promise 10: the mask of the latest SQUARE that was made or was right, whichever came last. */
public final class MaskTest {
    /** Values whose squares have the masks 0 to 3. */
    private static final long[][] OF_MASK = {{0, 0}, {1445, 4886718345L}, {6, 32529829701L}, {1765, 39369751052L}};

    public static void main(String[] args) {
        noneAtFirst();
        noneWithoutARow();
        noneForOtherForms();
        for (int first = 0; first < 4; first++) {
            ofTheOneMade(first);
            ofTheOneRight(first);
            for (int second = 0; second < 4; second++) {
                whicheverCameLast(first, second);
            }
        }
        notOfOneThatIsNotRight();
        notOfFieldsAlone();
        Due.end();
    }

    private static void noneAtFirst() {
        Due.same("mask() at first", new BarCodes(2).mask(), BarCodes.NONE);
    }

    private static void noneWithoutARow() {
        BarCodes codes = new BarCodes(2);
        codes.field(0, 9);
        codes.make();
        Due.same("mask() when none was made", codes.mask(), BarCodes.NONE);
        Rows.parse(codes, "?".repeat(144));
        codes.parse();
        Due.same("mask() when none was right", codes.mask(), BarCodes.NONE);
    }

    private static void noneForOtherForms() {
        for (int form : new int[] {0, 1, 3, 4, 65536}) {
            long[] values = Forms.VALUES[Forms.kind(form)];
            BarCodes codes = Rows.given(form, values);
            codes.make();
            Due.same("mask() of form " + form + " made", codes.mask(), BarCodes.NONE);
            Rows.parse(codes, Rows.of(form, values));
            Due.same("mask() of form " + form + " right", codes.mask(), BarCodes.NONE);
        }
    }

    private static void ofTheOneMade(int mask) {
        BarCodes codes = Rows.given(2, OF_MASK[mask]);
        codes.make();
        Due.same("mask() of the one made", codes.mask(), mask);
    }

    private static void ofTheOneRight(int mask) {
        BarCodes codes = new BarCodes(2);
        Rows.parse(codes, Rows.of(2, OF_MASK[mask]));
        Due.same("mask() of the one right", codes.mask(), mask);
        BarCodes other = new BarCodes(2);
        Rows.parse(other, Rows.turned(2, Rows.of(2, OF_MASK[mask])));
        Due.same("mask() of the one right, turned", other.mask(), mask);
    }

    private static void whicheverCameLast(int made, int read) {
        BarCodes codes = Rows.given(2, OF_MASK[made]);
        codes.make();
        Rows.parse(codes, Rows.of(2, OF_MASK[read]));
        Due.same("mask() when a right one came last", codes.mask(), read);
        codes.make();
        Due.same("mask() when one was made last", codes.mask(), made);
        Rows.parse(codes, Rows.of(2, OF_MASK[read]));
        Due.same("mask() when a right one came last again", codes.mask(), read);
    }

    private static void notOfOneThatIsNotRight() {
        BarCodes codes = Rows.given(2, OF_MASK[3]);
        codes.make();
        Rows.parse(codes, "?".repeat(127) + "0111" + "?".repeat(13));
        Due.same("mask() when one of mask 1 was not right", codes.mask(), 3);
        Rows.parse(codes, Rows.of(2, OF_MASK[1]).substring(1));
        Due.same("mask() when one was too short", codes.mask(), 3);
    }

    private static void notOfFieldsAlone() {
        BarCodes codes = Rows.given(2, OF_MASK[3]);
        codes.make();
        Rows.give(codes, OF_MASK[1]);
        Due.same("mask() when fields got other values", codes.mask(), 3);
        Due.throwsAny(() -> codes.field(0, -1));
        Due.same("mask() when a value was refused", codes.mask(), 3);
        codes.make();
        Due.same("mask() when made of them", codes.mask(), 1);
    }
}
