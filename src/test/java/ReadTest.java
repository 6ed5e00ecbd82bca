/** Promise 5: a bar was read. */
public final class ReadTest {
    private static final int[] HIGHEST = {3, 3, 1, 1};

    public static void main(String[] args) {
        for (int form = 0; form < HIGHEST.length; form++) {
            heights(form);
            atMost200(form);
        }
        throwingChangesNothing();
        Due.end();
    }

    private static void heights(int form) {
        BarCodes codes = new BarCodes(form);
        for (int height = 0; height <= HIGHEST[form]; height++) {
            codes.read(height);
        }
        int[] wrong = {-1, HIGHEST[form] + 1, 4, Integer.MIN_VALUE, Integer.MAX_VALUE};
        for (int height : wrong) {
            Due.throwing("read(" + height + ") of form " + form, IllegalArgumentException.class,
                    () -> codes.read(height));
        }
    }

    private static void atMost200(int form) {
        BarCodes codes = new BarCodes(form);
        for (int k = 0; k < 100; k++) {
            codes.read(1);
            codes.erased();
        }
        Due.throwing("a 201st read", IllegalStateException.class, () -> codes.read(1));
        Due.throwing("a wrong 201st read", IllegalArgumentException.class, () -> codes.read(4));
        Due.same("parse() of 200", codes.parse(), BarCodes.NONE);
        Due.same("a read when nothing is read", Due.thrownBy(() -> codes.read(1)), "nothing thrown");
    }

    private static void throwingChangesNothing() {
        String row = Rows.of(3, 12345);
        BarCodes codes = new BarCodes(3);
        Rows.read(codes, row.substring(0, 20));
        Due.thrownBy(() -> codes.read(2));
        Due.same("parse() with a refused bar within", Rows.parse(codes, row.substring(20)), 1);
        Due.same("its field", codes.value(0), 12345);
    }
}
