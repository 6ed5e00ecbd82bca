import java.util.stream.IntStream;

/** Terms, READING: a row is TURNED if more of the frame are as they must be when it is turned than when not. */
public final class SideTest {
    private static final int[] FORMS = {0, 1, 3, 65536};
    private static final String SQUARE_ROW = Forms.ROWS[Forms.SQUARE];
    private static final String SQUARE_OTHER = Rows.turned(Forms.SQUARE, SQUARE_ROW);

    public static void main(String[] args) {
        asManyOfBothIsDirect();
        oneMoreIsTurned();
        erasedOnesAreNot();
        for (int form : FORMS) {
            everyFrame(form);
        }
        for (int turned = 0; turned <= tellingPlaces().length; turned++) {
            squareWithSoManyTurned(turned, 0);
        }
        squareWithErasedOnes();
        squareByOneModule();
        placesThatTellNothing();
        Due.end();
    }

    /** 1 3 .. 0 1 is direct, 2 0 .. 3 2 is turned. */
    private static void asManyOfBothIsDirect() {
        framed(0, "????", false);
        framed(0, "10??", false);
        framed(0, "1?3?", false);
        framed(0, "2331", false);
        framed(0, "2200", false);
        framed(0, "1332", false);
        framed(3, "????", false);
        framed(3, "1??1", false);
        framed(3, "?00?", false);
        framed(3, "?11?", false);
        framed(3, "0110", false);
    }

    private static void oneMoreIsTurned() {
        framed(0, "?0??", true);
        framed(0, "2???", true);
        framed(0, "??3?", true);
        framed(0, "???2", true);
        framed(0, "103?", true);
        framed(0, "1032", true);
        framed(0, "2031", true);
        framed(3, "?1??", true);
        framed(3, "??0?", true);
        framed(3, "1101", true);
        framed(0, "1???", false);
        framed(0, "1301", false);
        framed(3, "?0??", false);
        framed(3, "??1?", false);
    }

    /** Of these the frame would be direct, or turned, if one more were read. */
    private static void erasedOnesAreNot() {
        framed(0, "?03?", true);
        framed(0, "13??", false);
        framed(0, "1?32", true);
        framed(0, "13?2", false);
        framed(3, "?10?", true);
        framed(3, "10?1", false);
    }

    private static void framed(int form, String ends, boolean turned) {
        int kind = Forms.kind(form);
        String row = Rows.of(form, Forms.VALUES[kind]);
        String upright = turned ? Rows.turned(kind, row) : row;
        String read = ends.substring(0, 2) + upright.substring(2, row.length() - 2) + ends.substring(2);
        reads("with the ends " + ends, form, read, turned);
    }

    private static void reads(String what, int form, String read, boolean turned) {
        long[] values = Forms.VALUES[Forms.kind(form)];
        BarCodes codes = new BarCodes(form);
        Due.same("parse() of form " + form + " " + what, Rows.parse(codes, read), values.length);
        Due.same("turned() of form " + form + " " + what, codes.turned() ? 1 : 0, turned ? 1 : 0);
        Due.same("the fields of form " + form + " " + what, Rows.fields(codes, values.length), Rows.text(values));
        Due.same("mended() of form " + form + " " + what, codes.mended(), 0);
    }

    private static void everyFrame(int form) {
        String bars = Forms.fourHeights(Forms.kind(form)) ? "0123?" : "01?";
        int count = bars.length();
        for (int k = 0; k < count * count * count * count; k++) {
            StringBuilder ends = new StringBuilder();
            for (int number = k, place = 0; place < 4; place++, number /= count) {
                ends.append(bars.charAt(number % count));
            }
            String asTurned = Rows.turned(Forms.kind(form), ends.toString());
            framed(form, ends.toString(), fitting(form, asTurned) > fitting(form, ends.toString()));
        }
    }

    private static int fitting(int form, String ends) {
        String due = Forms.fourHeights(Forms.kind(form)) ? "1301" : "1011";
        int count = 0;
        for (int k = 0; k < 4; k++) {
            count += ends.charAt(k) == due.charAt(k) ? 1 : 0;
        }
        return count;
    }

    private static boolean isFrame(int place) {
        return place < 12 || place >= 132 || place % 12 == 0 || place % 12 == 11;
    }

    /** The frame's modules that are other ones when a square is turned. */
    private static int[] tellingPlaces() {
        return IntStream.range(0, 144)
                .filter(place -> isFrame(place) && SQUARE_ROW.charAt(place) != SQUARE_OTHER.charAt(place))
                .toArray();
    }

    /** The first telling places are as when turned, some behind them erased, the others as when not. */
    private static void squareWithSoManyTurned(int turned, int erased) {
        int[] telling = tellingPlaces();
        boolean isTurned = turned > telling.length - turned - erased;
        String read = isTurned ? SQUARE_OTHER : SQUARE_ROW;
        for (int k = 0; k < telling.length; k++) {
            String side = k < turned ? SQUARE_OTHER : SQUARE_ROW;
            boolean lost = k >= turned && k < turned + erased;
            read = Rows.with(read, telling[k], lost ? '?' : side.charAt(telling[k]));
        }
        reads("with " + turned + " turned and " + erased + " erased", Forms.SQUARE, read, isTurned);
    }

    private static void squareWithErasedOnes() {
        int half = tellingPlaces().length / 2;
        squareWithSoManyTurned(half, 1);
        squareWithSoManyTurned(half - 1, 1);
        squareWithSoManyTurned(half - 1, 2);
        squareWithSoManyTurned(half - 1, 3);
        squareWithSoManyTurned(0, 2 * half);
        squareWithSoManyTurned(1, 2 * half - 1);
        squareWithSoManyTurned(1, 2 * half - 2);
    }

    /** All of the frame but one module is erased. */
    private static void squareByOneModule() {
        for (int place : tellingPlaces()) {
            reads("with module " + place + " alone", Forms.SQUARE, frameErasedBut(SQUARE_ROW, place), false);
            reads("with module " + place + " alone", Forms.SQUARE, frameErasedBut(SQUARE_OTHER, place), true);
        }
        reads("without a frame", Forms.SQUARE, frameErasedBut(SQUARE_ROW, -1), false);
    }

    private static String frameErasedBut(String row, int but) {
        String result = row;
        for (int place = 0; place < 144; place++) {
            if (isFrame(place) && place != but) {
                result = Rows.erased(result, place);
            }
        }
        return result;
    }

    /** Those that are alike from both sides may be wrong: the side is the same. */
    private static void placesThatTellNothing() {
        for (int place = 0; place < 144; place++) {
            if (isFrame(place) && SQUARE_ROW.charAt(place) == SQUARE_OTHER.charAt(place)) {
                reads("with module " + place + " wrong", Forms.SQUARE, Rows.spoilt(SQUARE_OTHER, place), true);
                reads("with module " + place + " wrong", Forms.SQUARE, Rows.spoilt(SQUARE_ROW, place), false);
            }
        }
    }
}
