/** Promise 4: a bar of the row that was made last. */
public final class BarTest {
    public static void main(String[] args) {
        outside(Rows.given(0, 1, 2, 3), 40);
        outside(Rows.given(1, 1, 2, 3, 4), 70);
        outside(Rows.given(2, 1, 2), 144);
        outside(Rows.given(3, 1), 34);
        bars();
        Due.end();
    }

    private static void outside(BarCodes codes, int length) {
        refused(codes, 0);
        refused(codes, length - 1);
        codes.make();
        int[] wrong = {-1, length, 144, 200, Integer.MIN_VALUE, Integer.MAX_VALUE};
        for (int i : wrong) {
            refused(codes, i);
        }
        Due.same("the first bar is as before", codes.bar(0), 1);
        Due.same("the last bar", codes.bar(length - 1), 1);
    }

    private static void refused(BarCodes codes, int i) {
        Due.throwing("bar(" + i + ")", ArrayIndexOutOfBoundsException.class, () -> codes.bar(i));
        Due.holds("bar(" + i + ") throws by itself, not the machine", !machineThrows(codes, i));
    }

    /** The machine names the index; what the class throws has a written text. */
    private static boolean machineThrows(BarCodes codes, int i) {
        try {
            codes.bar(i);
        } catch (ArrayIndexOutOfBoundsException e) {
            return e.getMessage() == null || e.getMessage().startsWith("Index");
        }
        return false;
    }

    private static void bars() {
        BarCodes codes = Rows.given(0, 0b011011, 0, 0);
        codes.make();
        int[] want = {1, 3, 1, 2, 3, 0};
        for (int i = 0; i < want.length; i++) {
            Due.same("bar(" + i + ")", codes.bar(i), want[i]);
        }
        Due.same("bar(38)", codes.bar(38), 0);
        Due.same("bar(39)", codes.bar(39), 1);
    }
}
