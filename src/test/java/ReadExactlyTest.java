import java.math.BigDecimal;
import java.math.BigInteger;
import java.math.MathContext;
import java.math.RoundingMode;
import java.util.Random;
import java.util.regex.Pattern;

/** Promise 3 over many texts: each answer against exact arithmetic, each form against a pattern. */
public final class ReadExactlyTest {
    private static final String DIGITS = "[0-9](?:_*[0-9])*";
    private static final String HEX = "[0-9a-fA-F](?:_*[0-9a-fA-F])*";
    private static final String EXPONENT = "(?:[eE][+-]?" + DIGITS + ")";
    private static final String BINARY = "(?:[pP][+-]?" + DIGITS + ")";
    private static final Pattern LITERAL = Pattern.compile(String.join("|",
            DIGITS + "\\.(?:" + DIGITS + ")?" + EXPONENT + "?",
            "\\." + DIGITS + EXPONENT + "?",
            DIGITS + EXPONENT + "?",
            "0[xX]" + HEX + "\\.?" + BINARY,
            "0[xX](?:" + HEX + ")?\\." + HEX + BINARY));
    /** The seed is fixed: each run of the test reads the same texts. */
    private static final Random CHOICE = new Random(20261115);
    private static final int ROUNDS = Integer.getInteger("rounds", 1);

    public static void main(String[] args) {
        for (int i = 0; i < 30000 * ROUNDS; i++) {
            scrambled();
        }
        for (int i = 0; i < 6000 * ROUNDS; i++) {
            decimal(CHOICE.nextBoolean());
            besideAMiddle(CHOICE.nextBoolean());
            hex(CHOICE.nextBoolean());
        }
        Check.end();
    }

    private static void scrambled() {
        String letters = CHOICE.nextBoolean() ? "01.e_" : "0019.eE+-_xXpPaF ";
        StringBuilder text = new StringBuilder(CHOICE.nextInt(3) == 0 ? "0x" : "");
        int length = 1 + CHOICE.nextInt(9);
        for (int i = 0; i < length; i++) {
            text.append(letters.charAt(CHOICE.nextInt(letters.length())));
        }
        boolean isLiteral = LITERAL.matcher(text).matches();
        String outcome = Check.readOutcome(text.toString(), false);
        Check.same("is a literal: " + text, !outcome.equals("throws.IllegalArgumentException"),
                isLiteral);
    }

    private static String digits(int count, int base) {
        StringBuilder all = new StringBuilder();
        for (int i = 0; i < count; i++) {
            all.append(Character.forDigit(CHOICE.nextInt(base), base));
        }
        return all.toString();
    }

    private static int someCount() {
        switch (CHOICE.nextInt(6)) {
            case 0:
                return 1 + CHOICE.nextInt(590);
            case 1:
                return 1 + CHOICE.nextInt(40);
            default:
                return 1 + CHOICE.nextInt(18);
        }
    }

    private static void decimal(boolean single) {
        String whole = digits(someCount(), 10);
        String part = digits(someCount(), 10);
        int range = single ? 60 : 350;
        int exponent = CHOICE.nextInt(2 * range) - range
                + (CHOICE.nextBoolean() ? -whole.length() : 0);
        String text = whole + "." + part + "e" + exponent;
        check(text, new BigDecimal(text), single);
    }

    private static void besideAMiddle(boolean single) {
        long bits = (CHOICE.nextLong() >>> 1) % Check.infinity(single);
        if (CHOICE.nextInt(4) == 0) {
            bits >>>= CHOICE.nextInt(single ? 32 : 63);
        }
        BigDecimal middle = Check.middleAbove(bits, single);
        check(middle.toString(), middle, single);
        int kept = 1 + CHOICE.nextInt(800);
        BigDecimal down = middle.round(new MathContext(kept, RoundingMode.DOWN));
        BigDecimal up = middle.round(new MathContext(kept, RoundingMode.UP));
        check(down.toString(), down, single);
        check(up.toString(), up, single);
        BigDecimal more = middle.add(BigDecimal.ONE.movePointLeft(middle.scale() + 20));
        check(more.toString(), more, single);
    }

    private static void hex(boolean single) {
        String whole = digits(CHOICE.nextInt(3) == 0 ? 1 + CHOICE.nextInt(500) : 1, 16);
        String part = digits(someCount(), 16);
        if (CHOICE.nextInt(3) == 0) {
            part = digits(single ? 5 : 12, 16) + "8" + "0".repeat(CHOICE.nextInt(30))
                    + CHOICE.nextInt(2);
        }
        int range = single ? 200 : 1200;
        int exponent = CHOICE.nextInt(2 * range) - range;
        if (CHOICE.nextBoolean()) {
            exponent -= 4 * whole.length();
        }
        BigDecimal value = new BigDecimal(new BigInteger(whole + part, 16));
        int power = exponent - 4 * part.length();
        BigDecimal two = new BigDecimal(2).pow(Math.abs(power));
        value = power < 0 ? value.divide(two) : value.multiply(two);
        check("0x" + whole + "." + part + "p" + exponent, value, single);
    }

    private static void check(String text, BigDecimal value, boolean single) {
        if (text.length() > 1200) {
            return;
        }
        String outcome = Check.readOutcome(text, single);
        Check.same(single + " " + text + " read as " + outcome,
                isDue(outcome, value, single), true);
    }

    private static boolean isDue(String outcome, BigDecimal value, boolean single) {
        if (value.signum() == 0) {
            return outcome.equals("0");
        }
        boolean isTooSmall = value.compareTo(Check.middleAbove(0, single)) <= 0;
        boolean isTooGreat =
                value.compareTo(Check.middleBelow(Check.infinity(single), single)) >= 0;
        if (isTooSmall || isTooGreat || outcome.startsWith("throws")) {
            return (isTooSmall || isTooGreat) && outcome.equals("throws.ArithmeticException");
        }
        long bits = Long.parseLong(outcome);
        return bits > 0 && bits < Check.infinity(single) && Check.isReadAs(value, bits, single);
    }
}
