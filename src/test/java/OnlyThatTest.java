/** Promises 2 to 12: a call that is taken changes what the document says of it, and nothing else. */
public final class OnlyThatTest {
    private static final int[] FORMS = {0, 1, 2, 3, 65536};

    public static void main(String[] args) {
        for (int form : FORMS) {
            looksChangeNothing(form);
            fieldChangesAFieldAlone(form);
            makeChangesTheRowAlone(form);
            readAndErasedChangeWhatIsReadAlone(form);
            parseChangesNoRowAndNoField(form);
        }
        Due.end();
    }

    private static void looksChangeNothing(int form) {
        for (States.State state : States.all(form)) {
            Unchanged.by("value(0)", state, codes -> codes.value(0));
            Unchanged.by("mended()", state, BarCodes::mended);
            Unchanged.by("mask()", state, BarCodes::mask);
            Unchanged.by("turned()", state, BarCodes::turned);
            Unchanged.by("over(5, 7)", state, codes -> codes.over(5, 7));
        }
        Unchanged.by("bar(0)", States.used(form), codes -> codes.bar(0));
        Unchanged.by("bar(0)", States.full(form), codes -> codes.bar(0));
    }

    private static void fieldChangesAFieldAlone(int form) {
        for (States.State state : States.all(form)) {
            States.Steps call = codes -> codes.field(0, 0);
            Unchanged.madeBy("field(0, 0)", state, call);
            Unchanged.toldBy("field(0, 0)", state, call);
            Unchanged.readBy("field(0, 0)", state, call);
        }
    }

    /** The mask of a square is told of the one made, so that the told fields are looked at without it. */
    private static void makeChangesTheRowAlone(int form) {
        long[] third = Forms.THIRDS[Forms.kind(form)];
        for (States.State state : new States.State[] {States.used(form), States.full(form)}) {
            BarCodes codes = state.made();
            Due.same("make() of " + state, codes.make(), Forms.LENGTHS[Forms.kind(form)]);
            Due.same("the fields told then", Rows.fields(codes, third.length), Rows.text(third));
            Due.same("mended() then", codes.mended(), 1);
            Due.holds("turned() then", codes.turned());
            Unchanged.fieldsBy("make()", state, BarCodes::make);
        }
        Unchanged.readBy("make()", States.used(form), BarCodes::make);
        BarCodes full = States.full(form).made();
        full.make();
        Due.throwing("erased() when 200 were read and a row made", IllegalStateException.class, full::erased);
    }

    private static void readAndErasedChangeWhatIsReadAlone(int form) {
        States.State[] states = {States.fresh(form), States.begun(form), States.idle(form), States.used(form)};
        for (States.State state : states) {
            for (States.Steps call : new States.Steps[] {codes -> codes.read(1), BarCodes::erased}) {
                Unchanged.madeBy("a bar more", state, call);
                Unchanged.toldBy("a bar more", state, call);
                Unchanged.fieldsBy("a bar more", state, call);
            }
        }
    }

    private static void parseChangesNoRowAndNoField(int form) {
        States.Steps right = codes -> {
            int parsed = Rows.parse(codes, Forms.kind(form) == form ? Forms.ROWS[form] : Rows.of(form, 0x2B0F1));
            Due.same("parse() of form " + form, parsed, Forms.WIDTHS[Forms.kind(form)].length);
        };
        Unchanged.madeBy("parse()", States.idle(form), right);
        Unchanged.readBy("parse()", States.idle(form), right);
        Unchanged.madeBy("parse()", States.fresh(form), right);
        BarCodes codes = States.idle(form).made();
        right.on(codes);
        String made = Rows.text(codes, codes.make());
        Due.same("the row made then", made, Rows.of(form, Forms.OTHERS[Forms.kind(form)]));
    }
}
