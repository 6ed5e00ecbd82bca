/** Makes and reads whole rows, written as texts: a digit a bar, '?' for an erased one. */
final class Rows {
    private Rows() {
    }

    static BarCodes given(int form, long... values) {
        BarCodes codes = new BarCodes(form);
        give(codes, values);
        return codes;
    }

    static void give(BarCodes codes, long... values) {
        for (int what = 0; what < values.length; what++) {
            codes.field(what, values[what]);
        }
    }

    /** The row that is made of these values. */
    static String of(int form, long... values) {
        BarCodes codes = given(form, values);
        return text(codes, codes.make());
    }

    static String text(BarCodes codes, int length) {
        StringBuilder row = new StringBuilder();
        for (int i = 0; i < length; i++) {
            row.append(codes.bar(i));
        }
        return row.toString();
    }

    static void read(BarCodes codes, String row) {
        for (int i = 0; i < row.length(); i++) {
            if (row.charAt(i) == '?') {
                codes.erased();
            } else {
                codes.read(row.charAt(i) - '0');
            }
        }
    }

    static int parse(BarCodes codes, String row) {
        read(codes, row);
        return codes.parse();
    }

    static String with(String row, int place, char bar) {
        return row.substring(0, place) + bar + row.substring(place + 1);
    }

    /** Another bar there, one that the form can have. */
    static String spoilt(String row, int... places) {
        String result = row;
        for (int place : places) {
            result = with(result, place, row.charAt(place) == '0' ? '1' : '0');
        }
        return result;
    }

    static String erased(String row, int... places) {
        String result = row;
        for (int place : places) {
            result = with(result, place, '?');
        }
        return result;
    }

    /** As it is seen from the other side. */
    static String turned(int form, String row) {
        StringBuilder result = new StringBuilder(row).reverse();
        for (int i = 0; form < 2 && i < result.length(); i++) {
            char bar = result.charAt(i);
            result.setCharAt(i, bar == '1' ? '2' : bar == '2' ? '1' : bar);
        }
        return result.toString();
    }

    static String text(long... values) {
        StringBuilder result = new StringBuilder();
        for (int what = 0; what < values.length; what++) {
            result.append(what == 0 ? "" : " ").append(values[what]);
        }
        return result.toString();
    }

    static String fields(BarCodes codes, int count) {
        StringBuilder result = new StringBuilder();
        for (int what = 0; what < count; what++) {
            result.append(what == 0 ? "" : " ").append(codes.value(what));
        }
        return result.toString();
    }
}
