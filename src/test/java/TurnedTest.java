/** Promise 12: whether the latest row that was right was turned. */
public final class TurnedTest {
    private static final long[][] VALUES = {{5, 1000000, 262143}, {1, 2, 3, 4}, {1445, 4886718345L}, {0x2B0F1}};

    public static void main(String[] args) {
        for (int form = 0; form < VALUES.length; form++) {
            bothSides(form);
        }
        upAndDownExchanged();
        framesCount();
        squareFrame();
        Due.end();
    }

    private static void bothSides(int form) {
        String row = Rows.of(form, VALUES[form]);
        String other = Rows.turned(form, row);
        BarCodes codes = new BarCodes(form);
        Due.holds("not turned() at first", !codes.turned());
        reads(codes, form, other, true);
        reads(codes, form, row, false);
        reads(codes, form, other, true);
        Due.same("parse() of nothing", codes.parse(), BarCodes.NONE);
        Due.same("parse() of a short row", Rows.parse(codes, row.substring(1)), BarCodes.NONE);
        Due.same("parse() of erased ones", Rows.parse(codes, "?".repeat(row.length())), BarCodes.NONE);
        Due.holds("turned() still", codes.turned());
        codes.field(0, 1);
        codes.make();
        Due.holds("turned() when fields got values", codes.turned());
    }

    private static void reads(BarCodes codes, int form, String row, boolean turned) {
        Due.same("parse() of form " + form, Rows.parse(codes, row), VALUES[form].length);
        Due.same("turned() of form " + form, codes.turned() ? 1 : 0, turned ? 1 : 0);
        for (int what = 0; what < VALUES[form].length; what++) {
            Due.same("value(" + what + ") of form " + form, codes.value(what), VALUES[form][what]);
        }
    }

    private static void upAndDownExchanged() {
        String other = Rows.turned(0, Rows.of(0, VALUES[0]));
        Due.same("the ends of a turned row", other.substring(0, 2) + other.substring(38), "2032");
        BarCodes codes = new BarCodes(0);
        String notExchanged = new StringBuilder(Rows.of(0, VALUES[0])).reverse().toString();
        Due.same("a row from its end alone", Rows.parse(codes, notExchanged), BarCodes.NONE);
    }

    /** 1 3 .. 0 1 is direct, 2 0 .. 3 2 turned: as many of both, and it is direct. */
    private static void framesCount() {
        BarCodes codes = new BarCodes(0);
        String row = Rows.of(0, VALUES[0]);
        String inner = row.substring(2, 38);
        reads(codes, 0, "1" + "?" + inner + "??", false);
        reads(codes, 0, "??" + inner + "??", false);
        reads(codes, 0, "10" + inner + "??", false);
        reads(codes, 0, "23" + inner + "31", false);
        String turnedInner = Rows.turned(0, row).substring(2, 38);
        reads(codes, 0, "?0" + turnedInner + "??", true);
        reads(codes, 0, "10" + turnedInner + "3?", true);
        reads(codes, 0, "??" + turnedInner + "?2", true);
        BarCodes tags = new BarCodes(3);
        String tag = Rows.of(3, VALUES[3]);
        reads(tags, 3, "??" + tag.substring(2, 32) + "??", false);
        String turnedTag = Rows.turned(3, tag).substring(2, 32);
        reads(tags, 3, "?1" + turnedTag + "??", true);
        reads(tags, 3, "??" + turnedTag + "0?", true);
        reads(tags, 3, "?0" + tag.substring(2, 32) + "0?", false);
    }

    /** Of the whole frame one module is left, then none. */
    private static void squareFrame() {
        String row = Rows.of(2, VALUES[2]);
        String other = Rows.turned(2, row);
        BarCodes codes = new BarCodes(2);
        for (int place = 0; place < 144; place++) {
            if (isFrame(place)) {
                readsByOne(codes, row, other, place);
            }
        }
        reads(codes, 2, frameErased(row, -1), false);
    }

    private static boolean isFrame(int place) {
        return place < 12 || place >= 132 || place % 12 == 0 || place % 12 == 11;
    }

    private static String frameErased(String row, int but) {
        String result = row;
        for (int place = 0; place < 144; place++) {
            if (isFrame(place) && place != but) {
                result = Rows.erased(result, place);
            }
        }
        return result;
    }

    /** A module tells the side only where the frame differs from the turned frame. */
    private static void readsByOne(BarCodes codes, String row, String other, int place) {
        reads(codes, 2, frameErased(row, place), false);
        if (row.charAt(place) != other.charAt(place)) {
            reads(codes, 2, frameErased(other, place), true);
        }
    }
}
