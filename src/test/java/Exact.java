import java.math.BigDecimal;
import java.math.BigInteger;
import java.math.MathContext;
import java.math.RoundingMode;
import java.util.regex.Pattern;

/** What is due, straight from the document's words in exact arithmetic, however slow. */
final class Exact {
    static final String NO_LITERAL = "throws.IllegalArgumentException";
    static final String OUT_OF_RANGE = "throws.ArithmeticException";

    private static final String DIGITS = "[0-9](?:_*[0-9])*";
    private static final String HEX = "[0-9a-fA-F](?:_*[0-9a-fA-F])*";
    private static final String EXPONENT = "(?:[eE][+-]?" + DIGITS + ")";
    private static final String BINARY = "(?:[pP][+-]?" + DIGITS + ")";
    private static final Pattern LITERAL = Pattern.compile(String.join("|",
            DIGITS + "\\.(?:" + DIGITS + ")?" + EXPONENT + "?",
            "\\." + DIGITS + EXPONENT + "?",
            DIGITS + EXPONENT + "?",
            "0[xX]" + HEX + "\\.?" + BINARY,
            "0[xX](?:" + HEX + ")?\\." + HEX + BINARY));

    /** 1200 digits of base 16 can't make up for so great an exponent. */
    private static final int FAR = 9999;
    private static final BigDecimal LEAST_PLAIN = new BigDecimal("0.001");
    private static final BigDecimal BEHIND_PLAIN = new BigDecimal("10000000");

    private Exact() {
    }

    static long infinity(boolean single) {
        return single ? 0x7F800000L : 0x7FF0000000000000L;
    }

    private static long signBit(boolean single) {
        return single ? 0x80000000L : 0x8000000000000000L;
    }

    /** The exact value of bits without a sign; infinity counts as the number above the greatest. */
    static BigDecimal exact(long bits, boolean single) {
        if (bits == infinity(single)) {
            return new BigDecimal(2).pow(single ? 128 : 1024);
        }
        return single ? new BigDecimal((double) Float.intBitsToFloat((int) bits))
                : new BigDecimal(Double.longBitsToDouble(bits));
    }

    /** The middle of a number and the one above it. */
    static BigDecimal middleAbove(long bits, boolean single) {
        BigDecimal sum = exact(bits, single).add(exact(bits + 1, single));
        return sum.divide(new BigDecimal(2));
    }

    /** The middle of a number and the one below it. */
    static BigDecimal middleBelow(long bits, boolean single) {
        return middleAbove(bits - 1, single);
    }

    static boolean isLiteral(String text) {
        return LITERAL.matcher(text).matches();
    }

    /** What read answers, or throws, for a text. */
    static String read(String text, boolean single) {
        return isLiteral(text) ? nearest(value(text), single) : NO_LITERAL;
    }

    private static BigDecimal value(String text) {
        String bare = text.replace("_", "").toLowerCase();
        boolean isHex = bare.startsWith("0x");
        String[] parts = bare.substring(isHex ? 2 : 0).split(isHex ? "p" : "e");
        int point = parts[0].indexOf('.');
        int behind = point < 0 ? 0 : parts[0].length() - point - 1;
        BigInteger digits = new BigInteger(parts[0].replace(".", ""), isHex ? 16 : 10);
        int exponent = parts.length > 1 ? atMostFar(new BigInteger(parts[1])) : 0;
        if (digits.signum() == 0) {
            return BigDecimal.ZERO;
        }
        return isHex ? timesPowerOfTwo(new BigDecimal(digits), exponent - 4 * behind)
                : new BigDecimal(digits).scaleByPowerOfTen(exponent - behind);
    }

    private static int atMostFar(BigInteger exponent) {
        return exponent.min(BigInteger.valueOf(FAR)).max(BigInteger.valueOf(-FAR)).intValue();
    }

    private static BigDecimal timesPowerOfTwo(BigDecimal value, int power) {
        BigDecimal two = new BigDecimal(2).pow(Math.abs(power));
        return power < 0 ? value.divide(two) : value.multiply(two);
    }

    private static String nearest(BigDecimal value, boolean single) {
        if (value.signum() == 0) {
            return "0";
        }
        if (value.compareTo(middleAbove(0, single)) <= 0
                || value.compareTo(middleBelow(infinity(single), single)) >= 0) {
            return OUT_OF_RANGE;
        }
        long bits = single ? Float.floatToRawIntBits(value.floatValue())
                : Double.doubleToRawLongBits(value.doubleValue());
        // The library's answer is but a guess here: these steps would mend it.
        bits = Math.max(1, Math.min(bits, infinity(single) - 1));
        while (!isReadAs(value, bits, single)) {
            bits += value.compareTo(exact(bits, single)) < 0 ? -1 : 1;
        }
        return Long.toString(bits);
    }

    /** Whether a value is read as the number with these bits, neither 0 nor infinity. */
    static boolean isReadAs(BigDecimal value, long bits, boolean single) {
        int below = value.compareTo(middleBelow(bits, single));
        int above = value.compareTo(middleAbove(bits, single));
        boolean isEven = (bits & 1) == 0;
        return below > 0 && above < 0 || isEven && (below == 0 || above == 0);
    }

    /** What write makes of bits; of a float the lower 32. */
    static String written(long bits, boolean single) {
        long magnitude = bits & (signBit(single) - 1);
        if (magnitude > infinity(single)) {
            return "NaN";
        }
        String sign = (bits & signBit(single)) != 0 ? "-" : "";
        if (magnitude == infinity(single)) {
            return sign + "Infinity";
        }
        return sign + (magnitude == 0 ? "0.0" : writtenDecimal(magnitude, single));
    }

    private static String writtenDecimal(long bits, boolean single) {
        BigDecimal number = exact(bits, single);
        for (int digits = 2; digits <= 20; digits++) {
            BigDecimal down = number.round(new MathContext(digits, RoundingMode.DOWN));
            BigDecimal up = number.round(new MathContext(digits, RoundingMode.UP));
            boolean isDown = isReadAs(down, bits, single);
            boolean isUp = isReadAs(up, bits, single);
            if (isDown || isUp) {
                boolean isBest = isDown && (!isUp || isBetter(down, up, number, digits));
                return laidOut(isBest ? down : up, number);
            }
        }
        return "none";
    }

    private static boolean isBetter(BigDecimal down, BigDecimal up, BigDecimal number, int digits) {
        int order = number.subtract(down).compareTo(up.subtract(number));
        return order < 0 || order == 0 && isEven(down, digits);
    }

    private static boolean isEven(BigDecimal decimal, int digits) {
        int scale = decimal.scale() - decimal.precision() + digits;
        return !decimal.setScale(scale).unscaledValue().testBit(0);
    }

    private static String laidOut(BigDecimal decimal, BigDecimal number) {
        BigDecimal bare = decimal.stripTrailingZeros();
        if (number.compareTo(LEAST_PLAIN) >= 0 && number.compareTo(BEHIND_PLAIN) < 0) {
            return bare.setScale(Math.max(bare.scale(), 1)).toPlainString();
        }
        String digits = bare.unscaledValue().toString();
        String others = digits.length() > 1 ? digits.substring(1) : "0";
        int power = bare.precision() - bare.scale() - 1;
        return digits.charAt(0) + "." + others + "E" + power;
    }
}
