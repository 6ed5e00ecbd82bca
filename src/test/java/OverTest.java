/** Promise 11: one element divided by another one. */
public final class OverTest {
    public static void main(String[] args) {
        BarCodes codes = new BarCodes(1);
        allPairs(codes);
        byLowestSixBits(codes);
        byZero(codes);
        Due.end();
    }

    /** The product of polynomials first, then modulo x^6 + x + 1. */
    static int product(int a, int b) {
        int whole = 0;
        for (int k = 0; k < 6; k++) {
            whole ^= (b >> k & 1) * (a << k);
        }
        for (int k = 10; k >= 6; k--) {
            whole ^= (whole >> k & 1) * (0b1000011 << k - 6);
        }
        return whole;
    }

    private static void allPairs(BarCodes codes) {
        for (int a = 0; a < 64; a++) {
            for (int b = 1; b < 64; b++) {
                int quotient = codes.over(a, b);
                Due.holds(a + " over " + b + " is an element", quotient >= 0 && quotient < 64);
                Due.same(a + " over " + b + ", times " + b, product(quotient, b), a);
            }
        }
        Due.same("1 over A", codes.over(1, 2), 33);
        Due.same("A over A", codes.over(2, 2), 1);
        Due.same("3 over A^5", codes.over(3, 32), 2);
    }

    private static void byLowestSixBits(BarCodes codes) {
        Due.same("64 over 1", codes.over(64, 1), 0);
        Due.same("-1 over 1", codes.over(-1, 1), 63);
        Due.same("5 over -1", codes.over(5, -1), codes.over(5, 63));
        Due.same("the greatest over 65", codes.over(Integer.MAX_VALUE, 65), 63);
        Due.same("the least over 3", codes.over(Integer.MIN_VALUE, 3), 0);
    }

    private static void byZero(BarCodes codes) {
        int[] zeros = {0, 64, -64, 128, 1 << 30, Integer.MIN_VALUE};
        for (int b : zeros) {
            Due.throwing("1 over " + b, ArithmeticException.class, () -> codes.over(1, b));
            Due.throwing("0 over " + b, ArithmeticException.class, () -> codes.over(0, b));
        }
    }
}
