import java.util.List;

/** What objects can have gone through when a call comes. */
final class States {
    private States() {
    }

    /** Calls on an object. */
    interface Steps {
        void on(BarCodes codes);
    }

    /** The rest is what completes the row that the steps before began to read. */
    record State(String name, int form, Steps before, String rest) {
        BarCodes made() {
            BarCodes codes = new BarCodes(form);
            before.on(codes);
            return codes;
        }

        @Override
        public String toString() {
            return "form " + form + ", " + name;
        }
    }

    static List<State> all(int form) {
        return List.of(fresh(form), begun(form), used(form), full(form));
    }

    static State fresh(int form) {
        return new State("new", form, codes -> { }, firstRow(form));
    }

    /** The last field has no value yet, a row was right, and a bar is read. */
    static State begun(int form) {
        return without(form, Forms.WIDTHS[Forms.kind(form)].length - 1);
    }

    static State without(int form, int what) {
        String row = firstRow(form);
        return new State("without field " + what, form, codes -> {
            giveBut(codes, Forms.VALUES[Forms.kind(form)], what);
            readThird(codes, form);
            Rows.read(codes, row.substring(0, 1));
        }, row.substring(1));
    }

    private static void giveBut(BarCodes codes, long[] values, int without) {
        for (int what = 0; what < values.length; what++) {
            if (what != without) {
                codes.field(what, values[what]);
            }
        }
    }

    /** A row is made, the fields have other values since, a third row was right, and nothing is read. */
    static State idle(int form) {
        String row = firstRow(form);
        return new State("idle", form, codes -> use(codes, form), row);
    }

    /** As idle, and half a row is read. */
    static State used(int form) {
        String row = firstRow(form);
        int half = row.length() / 2;
        return new State("used", form, codes -> {
            use(codes, form);
            Rows.read(codes, row.substring(0, half));
        }, row.substring(half));
    }

    /** As idle, and 200 are read: a row and more. */
    static State full(int form) {
        String row = firstRow(form);
        return new State("full", form, codes -> {
            use(codes, form);
            Rows.read(codes, row + "1".repeat(200 - row.length()));
        }, "");
    }

    private static void use(BarCodes codes, int form) {
        int kind = Forms.kind(form);
        Rows.give(codes, Forms.VALUES[kind]);
        codes.make();
        Rows.give(codes, Forms.OTHERS[kind]);
        readThird(codes, form);
    }

    /** It is turned, and a symbol of it is erased. */
    private static void readThird(BarCodes codes, int form) {
        int kind = Forms.kind(form);
        String row = Rows.erased(Rows.of(form, Forms.THIRDS[kind]), Forms.places(kind, 1)[0]);
        Rows.parse(codes, Rows.turned(kind, row));
    }

    private static String firstRow(int form) {
        return Rows.of(form, Forms.VALUES[Forms.kind(form)]);
    }
}
