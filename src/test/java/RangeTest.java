import java.math.BigDecimal;

/** Promise 3 and the Terms: what is TOO GREAT or TOO SMALL, and what is not yet. */
public final class RangeTest {
    private static final int TEXT_LIMIT = 1200;

    public static void main(String[] args) {
        greatestDouble();
        greatestFloat();
        leastDouble();
        leastFloat();
        for (boolean single : new boolean[] {false, true}) {
            middleBehindTheGreatest(single);
            middleBeforeTheLeast(single);
        }
        carriesInHex();
        oneSizeAlone();
        farBeyond();
        manyDigits();
        Check.end();
    }

    private static void reads(String letters, double due) {
        Check.same("read(false) of " + letters, Check.readOutcome(letters, false),
                Long.toString(Check.bits(due)));
    }

    private static void readsSingle(String letters, float due) {
        Check.same("read(true) of " + letters, Check.readOutcome(letters, true),
                Long.toString(Check.bits(due)));
    }

    private static void isOut(String letters) {
        Check.same("read(false) of " + letters, Check.readOutcome(letters, false),
                Exact.OUT_OF_RANGE);
    }

    private static void isOutSingle(String letters) {
        Check.same("read(true) of " + letters, Check.readOutcome(letters, true),
                Exact.OUT_OF_RANGE);
    }

    private static void greatestDouble() {
        reads("1.7976931348623157e308", Double.MAX_VALUE);
        reads("1.7976931348623158e308", Double.MAX_VALUE);
        isOut("1.7976931348623159e308");
        isOut("1.8e308");
        isOut("1e309");
        isOut("1e310");
        isOut("1e311");
        reads("0x1.fffffffffffffp1023", Double.MAX_VALUE);
        reads("0x1.fffffffffffff7ffffffffffffffffffffffp1023", Double.MAX_VALUE);
        isOut("0x1.fffffffffffff8p1023");
        isOut("0x1p1024");
    }

    private static void greatestFloat() {
        readsSingle("3.4028235e38", Float.MAX_VALUE);
        readsSingle("3.4028235677973366e38", Float.MAX_VALUE);
        readsSingle("340282356779733661637539395458142568447.999", Float.MAX_VALUE);
        isOutSingle("340282356779733661637539395458142568448");
        isOutSingle("3.402823567797337e38");
        isOutSingle("3.5e38");
        isOutSingle("1e39");
        readsSingle("0x1.fffffep127", Float.MAX_VALUE);
        readsSingle("0x1.fffffeffffffffffffffffffp127", Float.MAX_VALUE);
        isOutSingle("0x1.ffffffp127");
        isOutSingle("0x1p128");
    }

    private static void leastDouble() {
        reads("4.9e-324", Double.MIN_VALUE);
        reads("3e-324", Double.MIN_VALUE);
        reads("2.5e-324", Double.MIN_VALUE);
        isOut("2.4e-324");
        isOut("2e-324");
        isOut("1e-324");
        isOut("9e-325");
        reads("0x1p-1074", Double.MIN_VALUE);
        reads("0x1.00000000000000000001p-1075", Double.MIN_VALUE);
        isOut("0x1p-1075");
        isOut("0x1.fffffffffffffffffffp-1076");
        isOut("0x1p-1076");
        isOut("0x1p-1150");
    }

    private static void leastFloat() {
        readsSingle("1.4e-45", Float.MIN_VALUE);
        readsSingle("1e-45", Float.MIN_VALUE);
        readsSingle("7.1e-46", Float.MIN_VALUE);
        isOutSingle("7e-46");
        isOutSingle("1e-46");
        readsSingle("0x1p-149", Float.MIN_VALUE);
        readsSingle("0x1.000001p-150", Float.MIN_VALUE);
        isOutSingle("0x1p-150");
        isOutSingle("0x1.fffffffffffffffffffp-151");
        isOutSingle("0x1p-151");
    }

    private static void outcome(String text, boolean single, String due) {
        Check.same("read(" + single + ") of " + text, Check.readOutcome(text, single), due);
    }

    /** The number that would come next has an even last bit: the middle is TOO GREAT already. */
    private static void middleBehindTheGreatest(boolean single) {
        long greatest = Exact.infinity(single) - 1;
        BigDecimal middle = Exact.middleAbove(greatest, single);
        String text = middle.toPlainString();
        outcome(text, single, Exact.OUT_OF_RANGE);
        outcome(text + "." + "0".repeat(800), single, Exact.OUT_OF_RANGE);
        outcome(text + "." + "0".repeat(800) + "1", single, Exact.OUT_OF_RANGE);
        String below = middle.subtract(BigDecimal.ONE).toPlainString();
        outcome(below, single, Long.toString(greatest));
        outcome(below + "." + "9".repeat(800), single, Long.toString(greatest));
        outcome(Exact.exact(greatest, single).toPlainString(), single, Long.toString(greatest));
        outcome(Exact.exact(greatest + 1, single).toPlainString(), single, Exact.OUT_OF_RANGE);
    }

    /** Of 0 and the least number 0 has the even last bit: the middle is TOO SMALL still. */
    private static void middleBeforeTheLeast(boolean single) {
        String text = Exact.middleAbove(0, single).toPlainString();
        outcome(text, single, Exact.OUT_OF_RANGE);
        outcome(text + "0".repeat(50), single, Exact.OUT_OF_RANGE);
        outcome(text + "0".repeat(50) + "1", single, "1");
        outcome(text + "0".repeat(TEXT_LIMIT - 1 - text.length()) + "1", single, "1");
        String shorter = text.substring(0, text.length() - 1);
        outcome(shorter + "4" + "9".repeat(50), single, Exact.OUT_OF_RANGE);
        outcome(Exact.exact(1, single).toPlainString(), single, "1");
    }

    /** Rounding carries into the next power of two, which is beyond, or not yet. */
    private static void carriesInHex() {
        reads("0x1.fffffffffffffffffffp1022", 0x1p1023);
        readsSingle("0x1.ffffffffffp126", 0x1p127f);
        for (int power = 1023; power < 1030; power++) {
            isOut("0x1.fffffffffffffffffffp" + power);
        }
        for (int power = 127; power < 134; power++) {
            isOutSingle("0x1.ffffffffffp" + power);
        }
        isOut("0x" + "f".repeat(256) + "p0");
        isOutSingle("0x" + "f".repeat(32) + "p0");
        reads("0x" + "f".repeat(255) + "p0", 0x1p1020);
        readsSingle("0x" + "f".repeat(31) + "p0", 0x1p124f);
    }

    private static void oneSizeAlone() {
        reads("1e39", 1e39);
        isOutSingle("1e39");
        reads("1e308", 1e308);
        isOutSingle("1e308");
        reads("1e-46", 1e-46);
        isOutSingle("1e-46");
        reads("1e-308", 1e-308);
        isOutSingle("1e-308");
        reads("0x1p128", 0x1p128);
        isOutSingle("0x1p128");
        reads("0x1p-150", 0x1p-150);
        isOutSingle("0x1p-150");
    }

    /** Exponents at the ends of an int and of a long, and behind them, where they wrap around. */
    private static void farBeyond() {
        String[] all = {"400", "1000", "32768", "65536", "65537", "1000000", "1000001",
            "2147483646", "2147483647", "2147483648", "2147483649", "4294967295", "4294967296",
            "4294967297", "9223372036854775807", "9223372036854775808", "18446744073709551615",
            "18446744073709551616", "18446744073709551617", "9".repeat(1190)};
        for (String exponent : all) {
            for (String sign : new String[] {"", "+", "-"}) {
                for (String start : new String[] {"1e", "9.9e", ".001E"}) {
                    isOut(start + sign + exponent);
                    isOutSingle(start + sign + exponent);
                }
            }
            if (!exponent.equals("400") && !exponent.equals("1000")) {
                isOut("0x1p" + exponent);
                isOut("0x.8P-" + exponent);
            }
            isOutSingle("0x1p" + exponent);
            isOutSingle("0xf.P-" + exponent);
        }
    }

    private static void manyDigits() {
        isOut("9".repeat(TEXT_LIMIT));
        isOutSingle("9".repeat(TEXT_LIMIT));
        isOut("9".repeat(1195) + "e-99");
        isOut("1" + "0".repeat(1190) + "e-2000");
        isOut("." + "0".repeat(1190) + "1");
        isOut("." + "0".repeat(1190) + "1e2000");
        isOut("0x" + "f".repeat(1196) + "p0");
        isOut("0x." + "0".repeat(1190) + "1p0");
        isOut("1" + "0".repeat(309));
        isOutSingle("1" + "0".repeat(39));
        reads("1" + "0".repeat(308), 1e308);
        readsSingle("1" + "0".repeat(38), 1e38f);
    }
}
