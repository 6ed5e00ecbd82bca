/** Promise 10: the mask of the latest SQUARE that was made or was right. */
public final class MaskTest {
    public static void main(String[] args) {
        leastPenalty();
        leastOfSeveral();
        darkOnesDecide();
        whicheverCameLast();
        nearestOfRead();
        noneForOtherForms();
        Due.end();
    }

    private static void made(int want, long first, long second) {
        BarCodes codes = Rows.given(2, first, second);
        Due.same("make()", codes.make(), 144);
        Due.same("mask() of " + first + " " + second, codes.mask(), want);
        Due.same("the mask's bits", Rows.text(codes, 144).substring(127, 131),
                new String[] {"0000", "0111", "1011", "1100"}[want]);
    }

    private static void leastPenalty() {
        made(0, 0, 0);
        made(0, 237, 63738809855L);
        made(0, 835, 5);
        made(1, 3045, 52598629800L);
        made(1, 9, 54828373317L);
        made(1, 3398, 34985523300L);
        made(2, 3, 13558573197L);
        made(2, 6, 32529829701L);
        made(2, 589, 62781480523L);
        made(3, 2092, 50430591129L);
        made(3, 1765, 39369751052L);
        made(3, 540, 48575899431L);
    }

    /** Each of these has two masks with the least penalty. */
    private static void leastOfSeveral() {
        made(1, 27, 5051397300L);
        made(2, 57, 62372349808L);
        made(0, 1162, 26483509744L);
        made(1, 1032, 39946158358L);
        made(2, 222, 40207164724L);
    }

    /** Here another mask would be the best if the dark ones counted otherwise or not at all. */
    private static void darkOnesDecide() {
        made(0, 494, 17362845165L);
        made(0, 3439, 9192643937L);
        made(3, 3309, 20932697988L);
        made(2, 173, 11743643067L);
        made(0, 2665, 8183598780L);
        made(0, 3249, 16916862986L);
        made(1, 2696, 40708141692L);
    }

    private static void whicheverCameLast() {
        BarCodes codes = new BarCodes(2);
        codes.field(0, 9);
        codes.make();
        Due.same("mask() when none was made", codes.mask(), BarCodes.NONE);
        codes.field(1, 54828373317L);
        codes.make();
        Due.same("mask() of the one made", codes.mask(), 1);
        Rows.parse(codes, Rows.of(2, 1765, 39369751052L));
        Due.same("mask() of the one right", codes.mask(), 3);
        Rows.parse(codes, "?".repeat(144));
        Rows.parse(codes, "1");
        Due.same("mask() when one was not right", codes.mask(), 3);
        codes.make();
        Due.same("mask() of the one made again", codes.mask(), 1);
        Rows.parse(codes, Rows.turned(2, Rows.of(2, 6, 32529829701L)));
        Due.same("mask() of a turned one", codes.mask(), 2);
    }

    /** The word is drawn with mask 0 here; which one is seen decides how the bits are read. */
    private static void nearestOfRead() {
        BarCodes codes = new BarCodes(2);
        String row = Rows.of(2, 0, 0);
        Due.same("the mask's bits", row.substring(127, 131), "0000");
        reads(codes, row, "0001", 2, 0);
        reads(codes, row, "0010", 2, 0);
        reads(codes, row, "0100", 2, 0);
        reads(codes, row, "1000", 2, 0);
        reads(codes, row, "????", 2, 0);
        reads(codes, row, "?00?", 2, 0);
        reads(codes, row, "?1?0", BarCodes.NONE, 0);
        reads(codes, row, "?1??", BarCodes.NONE, 0);
        reads(codes, row, "1100", BarCodes.NONE, 0);
        String other = Rows.of(2, 9, 54828373317L);
        reads(codes, other, "0111", 2, 1);
        reads(codes, other, "?111", 2, 1);
        reads(codes, other, "?1??", 2, 1);
        reads(codes, other, "1111", 2, 1);
        reads(codes, other, "??1?", 2, 1);
        reads(codes, other, "???1", 2, 1);
    }

    private static void reads(BarCodes codes, String row, String bits, int parsed, int mask) {
        String read = row.substring(0, 127) + bits + row.substring(131);
        Due.same("parse() with mask bits " + bits, Rows.parse(codes, read), parsed);
        Due.same("mask() with mask bits " + bits, codes.mask(), mask);
    }

    private static void noneForOtherForms() {
        long[][] values = {{1, 2, 3}, {1, 2, 3, 4}, {}, {5}};
        for (int form = 0; form < values.length; form++) {
            if (form != 2) {
                BarCodes codes = Rows.given(form, values[form]);
                codes.make();
                Due.same("mask() of form " + form + " made", codes.mask(), BarCodes.NONE);
                Rows.parse(codes, Rows.of(form, values[form]));
                Due.same("mask() of form " + form + " right", codes.mask(), BarCodes.NONE);
            }
        }
    }
}
