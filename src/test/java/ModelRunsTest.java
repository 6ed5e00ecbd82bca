import java.util.Random;

/** Runs of up to 512 calls, each answered by the class as by the model of the document (promises 1 to 12). */
public final class ModelRunsTest {
    private static final int MOST_CALLS = 512;
    private static final int[] FORMS = {
        0, 1, 2, 3, 0, 1, 2, 4, 63, 64, 65535, 65536, -5, 65537, 65538, 65539, 65540, 1000003, Integer.MAX_VALUE,
    };

    private final Random random;
    private final BarCodes codes;
    private final PlainModel model;
    private final int form;
    private String lastRow;
    private int calls = 0;

    private ModelRunsTest(int form, long seed) {
        this.form = form;
        random = new Random(seed);
        codes = new BarCodes(form);
        model = new PlainModel(form);
        lastRow = "0".repeat(model.rowLength());
    }

    public static void main(String[] args) {
        for (int seed = 0; seed < 100; seed++) {
            for (int form : FORMS) {
                new ModelRunsTest(form, seed).run();
            }
        }
        Due.end();
    }

    private void run() {
        while (calls < MOST_CALLS) {
            switch (random.nextInt(4)) {
                case 0 -> someField();
                case 1 -> makeRow();
                case 2 -> readRow(changed(lastRow));
                default -> wrongCalls();
            }
            look();
        }
    }

    private interface Answer {
        long get();
    }

    private static String answer(Answer call) {
        try {
            return Long.toString(call.get());
        } catch (RuntimeException e) {
            return e.getClass().getSimpleName();
        }
    }

    /** What the 513th call answers is free: it and those behind it are left out. */
    private void both(String what, Answer ofClass, Answer ofModel) {
        calls++;
        if (calls <= MOST_CALLS) {
            Due.same("form " + form + ": " + what, answer(ofClass), answer(ofModel));
        }
    }

    private void field(int what, long v) {
        both("field(" + what + ", " + v + ")", () -> {
            codes.field(what, v);
            return 0;
        }, () -> {
            model.field(what, v);
            return 0;
        });
    }

    private void read(int height) {
        both("read(" + height + ")", () -> {
            codes.read(height);
            return 0;
        }, () -> {
            model.read(height);
            return 0;
        });
    }

    private void erased() {
        both("erased()", () -> {
            codes.erased();
            return 0;
        }, () -> {
            model.erased();
            return 0;
        });
    }

    private void someField() {
        field(random.nextInt(5) - 1, random.nextLong() >> random.nextInt(64));
    }

    private void makeRow() {
        for (int what = 0; what < model.fieldCount(); what++) {
            field(what, random.nextLong() >>> 64 - random.nextInt(1, model.fieldWidth(what) + 1));
        }
        both("make()", codes::make, model::make);
        if (calls > MOST_CALLS) {
            return;
        }
        StringBuilder row = new StringBuilder();
        for (int i = 0; i < model.rowLength(); i++) {
            int place = i;
            both("bar(" + i + ")", () -> codes.bar(place), () -> model.bar(place));
            row.append(model.bar(i));
        }
        lastRow = row.toString();
    }

    /** Some are other or erased, about as many as can be mended, and some rows are turned. */
    private String changed(String row) {
        String result = row;
        int highest = row.length() == 40 || row.length() == 70 ? 3 : 1;
        int wrong = random.nextInt(5);
        for (int k = 0; k < wrong; k++) {
            result = Rows.with(result, random.nextInt(row.length()), (char) ('0' + random.nextInt(highest + 1)));
        }
        int erased = random.nextInt(3) * random.nextInt(4);
        for (int k = 0; k < erased; k++) {
            result = Rows.with(result, random.nextInt(row.length()), '?');
        }
        if (row.length() == 144 && random.nextInt(3) == 0) {
            result = Rows.with(result, 127 + random.nextInt(4), random.nextBoolean() ? '?' : '1');
        }
        if (random.nextInt(4) == 0) {
            result = frameChanged(result, highest);
        }
        result = random.nextBoolean() ? Rows.turned(highest == 3 ? 0 : 2, result) : result;
        return random.nextInt(12) == 0 ? result.substring(random.nextInt(3)) : result;
    }

    private String frameChanged(String row, int highest) {
        String result = row;
        int last = row.length() - 1;
        for (int place : new int[] {0, 1, last - 1, last}) {
            char bar = random.nextInt(3) == 0 ? '?' : (char) ('0' + random.nextInt(highest + 1));
            result = Rows.with(result, place, bar);
        }
        return result;
    }

    private void readRow(String row) {
        for (int i = 0; i < row.length(); i++) {
            if (row.charAt(i) == '?') {
                erased();
            } else {
                read(row.charAt(i) - '0');
            }
        }
        both("parse() of " + row, codes::parse, model::parse);
    }

    private void wrongCalls() {
        int any = random.nextInt() >> random.nextInt(32);
        int other = random.nextInt() >> random.nextInt(32);
        both("bar(" + any + ")", () -> codes.bar(any), () -> model.bar(any));
        both("value(" + any + ")", () -> codes.value(any), () -> model.value(any));
        both("over(" + any + ", " + other + ")", () -> codes.over(any, other), () -> model.over(any, other));
        read(any);
        field(any, other);
        both("make()", codes::make, model::make);
        both("parse()", codes::parse, model::parse);
    }

    private void look() {
        for (int what = 0; what < 5; what++) {
            int field = what;
            both("value(" + what + ")", () -> codes.value(field), () -> model.value(field));
        }
        both("mended()", codes::mended, model::mended);
        both("mask()", codes::mask, model::mask);
        both("turned()", () -> codes.turned() ? 1 : 0, () -> model.turned() ? 1 : 0);
    }
}
