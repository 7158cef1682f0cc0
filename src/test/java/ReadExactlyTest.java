import java.math.BigDecimal;
import java.math.MathContext;
import java.math.RoundingMode;
import java.util.Random;

/** Promise 3 over many texts, wrong ones too: each answer against exact arithmetic. */
public final class ReadExactlyTest {
    private static final int TEXT_LIMIT = 1200;
    /** The seed is fixed: each run of the test reads the same texts. */
    private static final Random CHOICE = new Random(20261115);
    private static final int ROUNDS = Integer.getInteger("rounds", 1);

    public static void main(String[] args) {
        for (int i = 0; i < 30000 * ROUNDS; i++) {
            scrambled();
        }
        for (int i = 0; i < 6000 * ROUNDS; i++) {
            decimal(CHOICE.nextBoolean());
            besideAMiddle(CHOICE.nextBoolean());
            hex(CHOICE.nextBoolean());
        }
        Check.end();
    }

    private static void scrambled() {
        String letters = CHOICE.nextBoolean() ? "01.e_" : "0019.eE+-_xXpPaF ";
        StringBuilder text = new StringBuilder(CHOICE.nextInt(3) == 0 ? "0x" : "");
        int length = 1 + CHOICE.nextInt(9);
        for (int i = 0; i < length; i++) {
            text.append(letters.charAt(CHOICE.nextInt(letters.length())));
        }
        check(text.toString(), CHOICE.nextBoolean());
    }

    private static String digits(int count, int base) {
        StringBuilder all = new StringBuilder();
        for (int i = 0; i < count; i++) {
            all.append(Character.forDigit(CHOICE.nextInt(base), base));
        }
        return all.toString();
    }

    private static int someCount() {
        switch (CHOICE.nextInt(6)) {
            case 0:
                return 1 + CHOICE.nextInt(590);
            case 1:
                return 1 + CHOICE.nextInt(40);
            default:
                return 1 + CHOICE.nextInt(18);
        }
    }

    private static void decimal(boolean single) {
        String whole = digits(someCount(), 10);
        String part = digits(someCount(), 10);
        int range = single ? 60 : 350;
        int exponent = CHOICE.nextInt(2 * range) - range
                + (CHOICE.nextBoolean() ? -whole.length() : 0);
        check(whole + "." + part + "e" + exponent, single);
    }

    private static void besideAMiddle(boolean single) {
        long bits = (CHOICE.nextLong() >>> 1) % Exact.infinity(single);
        if (CHOICE.nextInt(4) == 0) {
            bits >>>= CHOICE.nextInt(single ? 32 : 63);
        }
        BigDecimal middle = Exact.middleAbove(bits, single);
        check(middle.toString(), single);
        int kept = 1 + CHOICE.nextInt(800);
        BigDecimal down = middle.round(new MathContext(kept, RoundingMode.DOWN));
        BigDecimal up = middle.round(new MathContext(kept, RoundingMode.UP));
        check(down.toString(), single);
        check(up.toString(), single);
        BigDecimal more = middle.add(BigDecimal.ONE.movePointLeft(middle.scale() + 20));
        check(more.toString(), single);
    }

    private static void hex(boolean single) {
        String whole = digits(CHOICE.nextInt(3) == 0 ? 1 + CHOICE.nextInt(500) : 1, 16);
        String part = digits(someCount(), 16);
        if (CHOICE.nextInt(3) == 0) {
            part = digits(single ? 5 : 12, 16) + "8" + "0".repeat(CHOICE.nextInt(30))
                    + CHOICE.nextInt(2);
        }
        int range = single ? 200 : 1200;
        int exponent = CHOICE.nextInt(2 * range) - range;
        if (CHOICE.nextBoolean()) {
            exponent -= 4 * whole.length();
        }
        check("0x" + whole + "." + part + "p" + exponent, single);
    }

    private static void check(String text, boolean single) {
        if (text.length() <= TEXT_LIMIT) {
            Check.readsExactly(text, single);
        }
    }
}
