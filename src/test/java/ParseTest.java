/** Promise 7: what was read is a row, if it is as long as it must be and right. */
public final class ParseTest {
    private static final int[] FORMS = {0, 1, 2, 3, 65536};

    public static void main(String[] args) {
        for (int form : FORMS) {
            howManyFields(form);
            nothingRead(form);
            oneTooFew(form);
            oneTooMany(form);
            twoHundred(form);
            lengthOfOtherForms(form);
            notRight(form);
            nothingIsReadAfterARightOne(form);
            nothingIsReadAfterAWrongOne(form);
            latestRightStays(form);
            laterRightOneCounts(form);
            makesNoRow(form);
        }
        tagsOfOtherForms();
        Due.end();
    }

    private static String row(int form) {
        return Rows.of(form, Forms.VALUES[Forms.kind(form)]);
    }

    private static int fields(int form) {
        return Forms.WIDTHS[Forms.kind(form)].length;
    }

    private static void tells(String what, int form, BarCodes codes, long[] values) {
        for (int k = 0; k < values.length; k++) {
            Due.same(what + ": value(" + k + ") of form " + form, codes.value(k), values[k]);
        }
    }

    private static void howManyFields(int form) {
        BarCodes codes = new BarCodes(form);
        Due.same("parse() of a row of form " + form, Rows.parse(codes, row(form)), fields(form));
        tells("a row", form, codes, Forms.VALUES[Forms.kind(form)]);
    }

    /** What was read is no row: NONE, and all is as if nothing had been read. */
    private static void refused(String what, int form, String read) {
        States.Steps call = codes ->
                Due.same("parse() of " + what + " in form " + form, Rows.parse(codes, read), BarCodes.NONE);
        Unchanged.by(what, States.fresh(form), call);
        Unchanged.by(what, States.idle(form), call);
    }

    private static void nothingRead(int form) {
        refused("nothing", form, "");
    }

    private static void oneTooFew(int form) {
        String row = row(form);
        refused("a row without its first bar", form, row.substring(1));
        refused("a row without its last bar", form, row.substring(0, row.length() - 1));
        refused("a row without its first bar, turned", form, Rows.turned(Forms.kind(form), row.substring(1)));
        refused("one bar", form, "1");
    }

    private static void oneTooMany(int form) {
        String row = row(form);
        refused("a row and a bar", form, row + "1");
        refused("a bar and a row", form, "0" + row);
        refused("a row and an erased bar", form, row + "?");
    }

    private static void twoHundred(int form) {
        String row = row(form);
        refused("a row and bars up to 200", form, row + "1".repeat(200 - row.length()));
        refused("bars up to 200 and a row", form, "1".repeat(200 - row.length()) + row);
        refused("200 erased ones", form, "?".repeat(200));
    }

    private static void lengthOfOtherForms(int form) {
        for (int kind = 0; kind < Forms.KINDS; kind++) {
            if (kind != Forms.kind(form)) {
                refused("a row as long as that of form " + kind, form, "1".repeat(Forms.LENGTHS[kind]));
            }
        }
    }

    private static void notRight(int form) {
        int kind = Forms.kind(form);
        refused("erased ones alone", form, "?".repeat(Forms.LENGTHS[kind]));
        String row = row(form);
        for (int symbol = 0; symbol <= Forms.CHECKS[kind]; symbol++) {
            row = Rows.erased(row, Forms.places(kind, symbol)[0]);
        }
        refused("a row with an erased symbol too many", form, row);
    }

    private static void nothingIsReadAfterARightOne(int form) {
        BarCodes codes = new BarCodes(form);
        Rows.parse(codes, row(form));
        Due.same("parse() a second time", codes.parse(), BarCodes.NONE);
        Due.same("parse() of the row anew", Rows.parse(codes, row(form)), fields(form));
        for (int k = 1; k <= 200; k++) {
            Due.taken("erased() " + k + " after it", codes::erased);
        }
        Due.throwing("erased() 201 after it", IllegalStateException.class, codes::erased);
    }

    private static void nothingIsReadAfterAWrongOne(int form) {
        String row = row(form);
        String[] wrong = {"1", row.substring(1), "?".repeat(row.length()), row + "0"};
        for (String read : wrong) {
            BarCodes codes = new BarCodes(form);
            Due.same("parse() of " + read, Rows.parse(codes, read), BarCodes.NONE);
            Due.same("parse() right after it", codes.parse(), BarCodes.NONE);
            Due.same("parse() of a row after it", Rows.parse(codes, row), fields(form));
            tells("a row after it", form, codes, Forms.VALUES[Forms.kind(form)]);
        }
    }

    private static void latestRightStays(int form) {
        int kind = Forms.kind(form);
        BarCodes codes = new BarCodes(form);
        String row = row(form);
        Rows.parse(codes, Rows.turned(kind, Rows.erased(row, Forms.places(kind, 0)[0])));
        Due.same("parse() of erased ones", Rows.parse(codes, "?".repeat(row.length())), BarCodes.NONE);
        Due.same("parse() of nothing", codes.parse(), BarCodes.NONE);
        Due.same("parse() of a short one", Rows.parse(codes, "11"), BarCodes.NONE);
        tells("when others were not right", form, codes, Forms.VALUES[kind]);
        Due.same("mended() when others were not right", codes.mended(), 1);
        Due.same("mask() when others were not right", codes.mask(), kind == Forms.SQUARE ? 1 : BarCodes.NONE);
        Due.holds("turned() when others were not right", codes.turned());
    }

    private static void laterRightOneCounts(int form) {
        int kind = Forms.kind(form);
        BarCodes codes = new BarCodes(form);
        Rows.parse(codes, Rows.turned(kind, Rows.erased(row(form), Forms.places(kind, 0)[0])));
        Rows.parse(codes, Rows.of(form, Forms.OTHERS[kind]));
        tells("the later one", form, codes, Forms.OTHERS[kind]);
        Due.same("mended() of the later one", codes.mended(), 0);
        Due.same("mask() of the later one", codes.mask(), kind == Forms.SQUARE ? 3 : BarCodes.NONE);
        Due.holds("the later one is not turned()", !codes.turned());
    }

    /** Reading gives no field a value. */
    private static void makesNoRow(int form) {
        BarCodes codes = new BarCodes(form);
        Rows.parse(codes, row(form));
        Due.same("make() of form " + form + " when a row was read", codes.make(), BarCodes.NONE);
    }

    private static void tagsOfOtherForms() {
        BarCodes codes = new BarCodes(4);
        Due.same("a tag of form 68", Rows.parse(codes, Rows.of(68, 9)), 1);
        Due.same("mended() of it", codes.mended(), 0);
        Due.same("a tag of form 65536", Rows.parse(new BarCodes(65536), Rows.of(64, 9)), 1);
        // Both check symbols differ: two wrong ones, more than can be mended, and no other word is near.
        Due.same("a tag of form 5", Rows.parse(codes, Rows.of(5, 9)), BarCodes.NONE);
    }
}
