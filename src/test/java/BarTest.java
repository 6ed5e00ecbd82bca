/** Promise 4: a bar of the row that was made last. */
public final class BarTest {
    private static final int[] FORMS = {0, 1, 2, 3, 65536};

    public static void main(String[] args) {
        for (int form : FORMS) {
            firstAndLastBar(form);
            noneSuch(form);
            noRow(form);
            noRowByReading(form);
            thrownByTheClass(form);
        }
        bars();
        Due.end();
    }

    private static void firstAndLastBar(int form) {
        int kind = Forms.kind(form);
        BarCodes codes = Rows.given(form, Forms.VALUES[kind]);
        int length = codes.make();
        Due.same("the first bar of form " + form, codes.bar(0), 1);
        Due.same("the second bar of form " + form, codes.bar(1), Forms.fourHeights(kind) ? 3 : 0);
        Due.same("the last bar but one of form " + form, codes.bar(length - 2), Forms.fourHeights(kind) ? 0 : 1);
        Due.same("the last bar of form " + form, codes.bar(length - 1), 1);
    }

    private static void noneSuch(int form) {
        int length = Forms.LENGTHS[Forms.kind(form)];
        int[] wrong = {-1, -2, length, length + 1, 144, 200, Integer.MIN_VALUE, Integer.MAX_VALUE};
        for (int i : wrong) {
            Unchanged.refusedEver("bar(" + i + ")", form, ArrayIndexOutOfBoundsException.class, codes -> codes.bar(i));
        }
    }

    private static void noRow(int form) {
        int[] first = {0, 1, Forms.LENGTHS[Forms.kind(form)] - 1};
        for (int i : first) {
            String what = "bar(" + i + ") without a row";
            Unchanged.refused(what, States.fresh(form), ArrayIndexOutOfBoundsException.class, codes -> codes.bar(i));
            Unchanged.refused(what, States.begun(form), ArrayIndexOutOfBoundsException.class, codes -> codes.bar(i));
        }
        BarCodes codes = new BarCodes(form);
        Rows.give(codes, Forms.VALUES[Forms.kind(form)]);
        Due.throwing("bar(0) before make()", ArrayIndexOutOfBoundsException.class, () -> codes.bar(0));
        codes.make();
        Due.taken("bar(0) after it", () -> codes.bar(0));
    }

    private static void noRowByReading(int form) {
        BarCodes codes = new BarCodes(form);
        Rows.parse(codes, Rows.of(form, Forms.VALUES[Forms.kind(form)]));
        Due.throwing("bar(0) when a row was read", ArrayIndexOutOfBoundsException.class, () -> codes.bar(0));
    }

    /** The machine would name the index; what the class throws has a written text. */
    private static void thrownByTheClass(int form) {
        BarCodes codes = Rows.given(form, Forms.VALUES[Forms.kind(form)]);
        int length = codes.make();
        for (int i : new int[] {-1, length}) {
            try {
                codes.bar(i);
            } catch (ArrayIndexOutOfBoundsException e) {
                String text = e.getMessage();
                Due.holds("bar(" + i + ") is looked at before the array is", text != null && !text.startsWith("Index"));
            }
        }
    }

    private static void bars() {
        BarCodes codes = Rows.given(0, 0b011011, 0, 0);
        codes.make();
        int[] want = {1, 3, 1, 2, 3, 0};
        for (int i = 0; i < want.length; i++) {
            Due.same("bar(" + i + ")", codes.bar(i), want[i]);
        }
        Due.same("bar(38)", codes.bar(38), 0);
        Due.same("bar(39)", codes.bar(39), 1);
    }
}
