/** Promise 5: a bar was read. */
public final class ReadTest {
    private static final int[] FORMS = {0, 1, 2, 3, 65536};

    public static void main(String[] args) {
        for (int form : FORMS) {
            heights(form);
            noHeight(form);
            noHeightIsNamedFirst(form);
            twoHundred(form);
            twoHundredAndOne(form);
            twoHundredAgainWhenParsed(form);
            refusedOneIsNotInTheRow(form);
        }
        Due.end();
    }

    private static void heights(int form) {
        BarCodes codes = new BarCodes(form);
        for (int height = 0; height <= Forms.HIGHEST[Forms.kind(form)]; height++) {
            int taken = height;
            Due.taken("read(" + height + ") of form " + form, () -> codes.read(taken));
        }
    }

    private static void noHeight(int form) {
        int highest = Forms.HIGHEST[Forms.kind(form)];
        int[] wrong = {-1, -2, highest + 1, highest + 2, 4, 64, Integer.MIN_VALUE, Integer.MAX_VALUE};
        for (int height : wrong) {
            Unchanged.refusedEver("read(" + height + ")", form, IllegalArgumentException.class,
                    codes -> codes.read(height));
        }
    }

    private static void noHeightIsNamedFirst(int form) {
        int[] wrong = {-1, Forms.HIGHEST[Forms.kind(form)] + 1};
        for (int height : wrong) {
            Unchanged.refused("read(" + height + ") when 200 were read", States.full(form),
                    IllegalArgumentException.class, codes -> codes.read(height));
        }
    }

    private static void twoHundred(int form) {
        BarCodes codes = new BarCodes(form);
        for (int k = 1; k <= 200; k++) {
            Due.taken("read " + k + " of form " + form, () -> codes.read(1));
        }
        Due.throwing("read 201 of form " + form, IllegalStateException.class, () -> codes.read(1));
        Due.throwing("read 201 once more", IllegalStateException.class, () -> codes.read(0));
    }

    private static void twoHundredAndOne(int form) {
        for (int height = 0; height <= Forms.HIGHEST[Forms.kind(form)]; height++) {
            int refused = height;
            Unchanged.refused("read(" + height + ") when 200 were read", States.full(form),
                    IllegalStateException.class, codes -> codes.read(refused));
        }
    }

    private static void twoHundredAgainWhenParsed(int form) {
        BarCodes codes = new BarCodes(form);
        Rows.read(codes, "1".repeat(200));
        Due.throwsAny(() -> codes.read(1));
        Due.same("parse() of 200 in form " + form, codes.parse(), BarCodes.NONE);
        for (int k = 1; k <= 200; k++) {
            Due.taken("read " + k + " when nothing was read", () -> codes.read(0));
        }
        Due.throwing("read 201 then", IllegalStateException.class, () -> codes.read(0));
    }

    private static void refusedOneIsNotInTheRow(int form) {
        int kind = Forms.kind(form);
        String row = Rows.of(form, Forms.VALUES[kind]);
        BarCodes codes = new BarCodes(form);
        for (int i = 0; i < row.length(); i++) {
            Due.throwsAny(() -> codes.read(Forms.HIGHEST[kind] + 1));
            codes.read(row.charAt(i) - '0');
        }
        Due.same("parse() with refused bars within", codes.parse(), Forms.VALUES[kind].length);
        Due.same("mended() then", codes.mended(), 0);
    }
}
