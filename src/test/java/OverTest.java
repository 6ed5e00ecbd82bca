/** Promise 11: one element divided by another one, each by its lowest six bits. */
public final class OverTest {
    private static final int[] FORMS = {0, 1, 2, 3, 65536};

    public static void main(String[] args) {
        for (int a = 0; a < 64; a++) {
            byEachElement(a);
        }
        productsBelowAndAboveTheModulus();
        lowestSixBitsOfTheFirst();
        lowestSixBitsOfTheSecond();
        zeroByAnother();
        for (int form : FORMS) {
            byZero(form);
        }
        thrownByTheClass();
        Due.end();
    }

    /** The product of polynomials first, then modulo x^6 + x + 1. */
    static int product(int a, int b) {
        int whole = 0;
        for (int k = 0; k < 6; k++) {
            whole ^= (b >> k & 1) * (a << k);
        }
        for (int k = 10; k >= 6; k--) {
            whole ^= (whole >> k & 1) * (0b1000011 << k - 6);
        }
        return whole;
    }

    private static void byEachElement(int a) {
        BarCodes codes = new BarCodes(1);
        for (int b = 1; b < 64; b++) {
            int quotient = codes.over(a, b);
            Due.holds(a + " over " + b + " is an element", quotient >= 0 && quotient < 64);
            Due.same(a + " over " + b + ", times " + b, product(quotient, b), a);
        }
    }

    private static void same(int a, int b, int want) {
        Due.same("over(" + a + ", " + b + ")", new BarCodes(0).over(a, b), want);
    }

    /** A^5 is 32, A^6 is 3. */
    private static void productsBelowAndAboveTheModulus() {
        same(32, 16, 2);
        same(32, 2, 16);
        same(3, 2, 32);
        same(3, 32, 2);
        same(6, 32, 4);
        same(1, 2, 33);
        same(2, 2, 1);
        same(63, 63, 1);
        same(63, 1, 63);
    }

    private static void lowestSixBitsOfTheFirst() {
        same(63, 1, 63);
        same(64, 1, 0);
        same(65, 1, 1);
        same(127, 1, 63);
        same(128, 1, 0);
        same(-1, 1, 63);
        same(-63, 1, 1);
        same(-64, 1, 0);
        same(-65, 1, 63);
        same(Integer.MAX_VALUE, 1, 63);
        same(Integer.MIN_VALUE, 1, 0);
        same(Integer.MIN_VALUE + 5, 1, 5);
    }

    private static void lowestSixBitsOfTheSecond() {
        same(2, 66, 1);
        same(5, -63, 5);
        same(63, -1, 1);
        same(63, Integer.MAX_VALUE, 1);
        same(3, Integer.MIN_VALUE + 2, 32);
        same(67, 66, 32);
        same(-61, -62, 32);
    }

    private static void zeroByAnother() {
        same(0, 1, 0);
        same(0, 63, 0);
        same(64, 65, 0);
    }

    /** Each of these has neighbours that divide. */
    private static void byZero(int form) {
        int[] zeros = {0, 64, -64, 128, 1 << 30, Integer.MIN_VALUE};
        for (int b : zeros) {
            for (int a : new int[] {0, 1, 64, -1}) {
                Unchanged.refusedEver("over(" + a + ", " + b + ")", form, ArithmeticException.class,
                        codes -> codes.over(a, b));
            }
            same(1, b + 1, 1);
            same(63, b - 1, 1);
        }
    }

    /** The machine writes "/ by zero". */
    private static void thrownByTheClass() {
        try {
            new BarCodes(0).over(1, 0);
        } catch (ArithmeticException e) {
            String text = e.getMessage();
            Due.holds("the divisor is looked at before it divides", text == null || !text.contains("/"));
        }
    }
}
