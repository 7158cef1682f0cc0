import java.util.Random;

/** Promise 4 over many numbers: each against the document's words in exact arithmetic. */
public final class WriteExactlyTest {
    /** The seed is fixed: each run of the test writes the same numbers. */
    private static final Random CHOICE = new Random(5112026);
    private static final int ROUNDS = Integer.getInteger("rounds", 1);

    public static void main(String[] args) {
        beside(false, 2046, 52);
        beside(true, 254, 23);
        besideTens();
        leastOnes();
        everyOneThatTwoDigitsTell();
        ties();
        for (int i = 0; i < 6000 * ROUNDS; i++) {
            check((CHOICE.nextLong() >>> 1) % Exact.infinity(false), false);
            check((CHOICE.nextLong() >>> 1) % Exact.infinity(true), true);
            check(CHOICE.nextLong() >>> 12 >>> CHOICE.nextInt(52), false);
            check(CHOICE.nextInt(1 << 23) >>> CHOICE.nextInt(23), true);
            few(CHOICE.nextInt(100000), CHOICE.nextInt(600) - 300);
            few(CHOICE.nextInt(1000), CHOICE.nextInt(20) - 12);
            whole(CHOICE.nextLong() >>> (1 + CHOICE.nextInt(62)));
        }
        Check.end();
    }

    /** Powers of two, where the number below is nearer than the one above. */
    private static void beside(boolean single, int exponents, int fractionBits) {
        for (long exponent = 0; exponent <= exponents; exponent++) {
            long bits = exponent << fractionBits;
            for (long near = bits - 1; near <= bits + 1; near++) {
                check(near, single);
            }
        }
    }

    private static void besideTens() {
        for (int power = -323; power <= 308; power++) {
            for (int digit = 1; digit <= 9; digit++) {
                few(digit, power);
            }
        }
    }

    /** Those that two digits tell, and the first that need more. */
    private static void leastOnes() {
        for (long bits = 1; bits <= 2000; bits++) {
            check(bits, false);
            check(bits, true);
        }
    }

    /**
     * One digit counts as two: of all numbers that so few tell none is left out, wherever the even
     * one of two digits might decide.
     */
    private static void everyOneThatTwoDigitsTell() {
        for (int power = -325; power <= 308; power++) {
            for (int digits = 10; digits <= 99; digits++) {
                String decimal = digits + "e" + power;
                check(Check.bits(Double.parseDouble(decimal)), false);
                check(Check.bits(Float.parseFloat(decimal)), true);
            }
        }
    }

    /** A quarter behind the point, where the numbers are a quarter apart. */
    private static void ties() {
        for (int i = 0; i < 500; i++) {
            check(Check.bits(0x1p50 + 0.25 + CHOICE.nextInt(1 << 30) * 0.5), false);
            check(Check.bits(0x1p21f + 0.25f + CHOICE.nextInt(1 << 20) * 0.5f), true);
        }
    }

    private static void few(int digits, int power) {
        double number = Double.parseDouble(digits + "e" + power);
        long bits = Double.doubleToRawLongBits(number);
        long single = Float.floatToRawIntBits((float) number);
        for (long step = -1; step <= 1; step++) {
            check(bits + step, false);
            check(single + step, true);
        }
    }

    private static void whole(long number) {
        check(Double.doubleToRawLongBits((double) number), false);
        check(Float.floatToRawIntBits((float) number), true);
    }

    private static void check(long bits, boolean single) {
        if (bits > 0 && bits < Exact.infinity(single)) {
            Check.same((single ? "float " : "double ") + bits, Check.writtenText(bits, single),
                    Exact.written(bits, single));
        }
    }
}
