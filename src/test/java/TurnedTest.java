/** Promise 12: whether the latest row that was right was turned. */
public final class TurnedTest {
    private static final int[] FORMS = {0, 1, 2, 3, 65536};

    public static void main(String[] args) {
        for (int form : FORMS) {
            notAtFirst(form);
            notWhenNoneWasRight(form);
            bothSides(form);
            latestRightCounts(form);
            staysWhenOthersAreNotRight(form);
            staysWhenOneIsMade(form);
            alikeFromBothSides(form);
        }
        upAndDownExchanged();
        Due.end();
    }

    private static String row(int form) {
        return Rows.of(form, Forms.VALUES[Forms.kind(form)]);
    }

    private static String other(int form) {
        return Rows.turned(Forms.kind(form), row(form));
    }

    private static void reads(BarCodes codes, int form, String row, boolean turned) {
        long[] values = Forms.VALUES[Forms.kind(form)];
        Due.same("parse() of form " + form, Rows.parse(codes, row), values.length);
        Due.same("turned() of form " + form, codes.turned() ? 1 : 0, turned ? 1 : 0);
        Due.same("the fields of form " + form, Rows.fields(codes, values.length), Rows.text(values));
    }

    private static void notAtFirst(int form) {
        Due.holds("not turned() at first", !new BarCodes(form).turned());
    }

    private static void notWhenNoneWasRight(int form) {
        BarCodes codes = new BarCodes(form);
        int kind = Forms.kind(form);
        String row = row(form);
        for (int symbol = 0; symbol <= Forms.CHECKS[kind]; symbol++) {
            row = Rows.erased(row, Forms.places(kind, symbol)[0]);
        }
        int parsed = Rows.parse(codes, Rows.turned(kind, row));
        Due.same("parse() of a turned row that is not right", parsed, BarCodes.NONE);
        Due.holds("not turned() then", !codes.turned());
        Due.same("parse() of one too short", Rows.parse(codes, other(form).substring(1)), BarCodes.NONE);
        Due.holds("not turned() when it was too short", !codes.turned());
    }

    private static void bothSides(int form) {
        reads(new BarCodes(form), form, row(form), false);
        reads(new BarCodes(form), form, other(form), true);
    }

    private static void latestRightCounts(int form) {
        BarCodes codes = new BarCodes(form);
        reads(codes, form, other(form), true);
        reads(codes, form, row(form), false);
        reads(codes, form, other(form), true);
    }

    private static void staysWhenOthersAreNotRight(int form) {
        BarCodes codes = new BarCodes(form);
        reads(codes, form, other(form), true);
        codes.parse();
        Rows.parse(codes, row(form).substring(1));
        Due.holds("turned() when a row was too short", codes.turned());
        Rows.parse(codes, "?".repeat(row(form).length()));
        Due.holds("turned() when a row was not right", codes.turned());
    }

    private static void staysWhenOneIsMade(int form) {
        BarCodes codes = Rows.given(form, Forms.OTHERS[Forms.kind(form)]);
        reads(codes, form, other(form), true);
        codes.make();
        Due.holds("turned() when a row was made", codes.turned());
    }

    /** Turned twice, a row is as it was. */
    private static void alikeFromBothSides(int form) {
        Due.same("the row turned twice", Rows.turned(Forms.kind(form), other(form)), row(form));
        String spoilt = Rows.spoilt(row(form), Forms.places(Forms.kind(form), 1)[0]);
        reads(new BarCodes(form), form, Rows.turned(Forms.kind(form), spoilt), true);
    }

    private static void upAndDownExchanged() {
        for (int form = 0; form < 2; form++) {
            String other = other(form);
            int length = other.length();
            Due.same("the ends of a turned row", other.substring(0, 2) + other.substring(length - 2), "2032");
            String notExchanged = new StringBuilder(row(form)).reverse().toString();
            Due.same("a row from its end alone", Rows.parse(new BarCodes(form), notExchanged), BarCodes.NONE);
        }
    }
}
