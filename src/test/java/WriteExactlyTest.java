import java.math.BigDecimal;
import java.math.MathContext;
import java.math.RoundingMode;
import java.util.Random;

/** Promise 4 over many numbers: each against the document's words in exact arithmetic. */
public final class WriteExactlyTest {
    /** The seed is fixed: each run of the test writes the same numbers. */
    private static final Random CHOICE = new Random(5112026);
    private static final int ROUNDS = Integer.getInteger("rounds", 1);
    private static final BigDecimal LEAST_PLAIN = new BigDecimal("0.001");
    private static final BigDecimal BEHIND_PLAIN = new BigDecimal("10000000");

    public static void main(String[] args) {
        beside(false, 2046, 52);
        beside(true, 254, 23);
        besideTens();
        for (int i = 0; i < 6000 * ROUNDS; i++) {
            check((CHOICE.nextLong() >>> 1) % Check.infinity(false), false);
            check((CHOICE.nextLong() >>> 1) % Check.infinity(true), true);
            check(CHOICE.nextLong() >>> 12 >>> CHOICE.nextInt(52), false);
            check(CHOICE.nextInt(1 << 23) >>> CHOICE.nextInt(23), true);
            few(CHOICE.nextInt(100000), CHOICE.nextInt(600) - 300);
            few(CHOICE.nextInt(1000), CHOICE.nextInt(20) - 12);
            whole(CHOICE.nextLong() >>> (1 + CHOICE.nextInt(62)));
        }
        Check.end();
    }

    /** Powers of two, where the number below is nearer than the one above. */
    private static void beside(boolean single, int exponents, int fractionBits) {
        for (long exponent = 0; exponent <= exponents; exponent++) {
            long bits = exponent << fractionBits;
            for (long near = bits - 1; near <= bits + 1; near++) {
                check(near, single);
            }
        }
    }

    private static void besideTens() {
        for (int power = -323; power <= 308; power++) {
            for (int digit = 1; digit <= 9; digit++) {
                few(digit, power);
            }
        }
    }

    private static void few(int digits, int power) {
        double number = Double.parseDouble(digits + "e" + power);
        long bits = Double.doubleToRawLongBits(number);
        long single = Float.floatToRawIntBits((float) number);
        for (long step = -1; step <= 1; step++) {
            check(bits + step, false);
            check(single + step, true);
        }
    }

    private static void whole(long number) {
        check(Double.doubleToRawLongBits((double) number), false);
        check(Float.floatToRawIntBits((float) number), true);
    }

    private static void check(long bits, boolean single) {
        if (bits > 0 && bits < Check.infinity(single)) {
            Check.same((single ? "float " : "double ") + bits, Check.writtenText(bits, single),
                    due(bits, single));
        }
    }

    private static String due(long bits, boolean single) {
        BigDecimal number = Check.exact(bits, single);
        for (int digits = 2; digits <= 20; digits++) {
            BigDecimal down = number.round(new MathContext(digits, RoundingMode.DOWN));
            BigDecimal up = number.round(new MathContext(digits, RoundingMode.UP));
            boolean isDown = Check.isReadAs(down, bits, single);
            boolean isUp = Check.isReadAs(up, bits, single);
            if (isDown || isUp) {
                boolean isBest = isDown && (!isUp || isBetter(down, up, number, digits));
                return laidOut(isBest ? down : up, number);
            }
        }
        return "none";
    }

    private static boolean isBetter(BigDecimal down, BigDecimal up, BigDecimal number, int digits) {
        int order = number.subtract(down).compareTo(up.subtract(number));
        return order < 0 || order == 0 && isEven(down, digits);
    }

    private static boolean isEven(BigDecimal decimal, int digits) {
        int scale = decimal.scale() - decimal.precision() + digits;
        return !decimal.setScale(scale).unscaledValue().testBit(0);
    }

    private static String laidOut(BigDecimal decimal, BigDecimal number) {
        BigDecimal bare = decimal.stripTrailingZeros();
        if (number.compareTo(LEAST_PLAIN) >= 0 && number.compareTo(BEHIND_PLAIN) < 0) {
            return bare.setScale(Math.max(bare.scale(), 1)).toPlainString();
        }
        String digits = bare.unscaledValue().toString();
        String others = digits.length() > 1 ? digits.substring(1) : "0";
        int power = bare.precision() - bare.scale() - 1;
        return digits.charAt(0) + "." + others + "E" + power;
    }
}
