import java.math.BigDecimal;

/** Promise 3: a text is read to the nearest number, of both sizes, and is empty then. */
public final class ReadTest {
    private static final int TEXT_LIMIT = 1200;

    public static void main(String[] args) {
        theValueOfEachForm();
        theNearestDouble();
        theNearestFloat();
        theNearestInHex();
        middlesOfDoubles();
        middlesOfFloats();
        middlesInHex();
        whatIsZero();
        exponentsWithManyDigits();
        pointsFarAway();
        asAFloatAndAsADouble();
        theTextIsEmptyInAnyCase();
        aReadLeavesWhatIsWritten();
        Check.end();
    }

    private static void reads(String letters, double due) {
        Check.same("read(false) of " + letters, Check.readOutcome(letters, false),
                Long.toString(Check.bits(due)));
    }

    private static void readsSingle(String letters, float due) {
        Check.same("read(true) of " + letters, Check.readOutcome(letters, true),
                Long.toString(Check.bits(due)));
    }

    private static void theValueOfEachForm() {
        reads("12.", 12);
        reads("12.5", 12.5);
        reads("12.e1", 120);
        reads("12.5E+1", 125);
        reads("12.5e-1", 1.25);
        reads(".5", 0.5);
        reads(".5e3", 500);
        reads("7", 7);
        reads("7E2", 700);
        reads("007", 7);
        reads("1_0__0.2_5e0_1", 1002.5);
        reads("1e+0_0_1", 10);
        reads("0x1p0", 1);
        reads("0X1.P+4", 16);
        reads("0x1.8p1", 3);
        reads("0x.8P-1", 0.25);
        reads("0xAbCdEfp0", 0xABCDEF);
        reads("0xf_F.8__0p0_1", 511);
        reads("0x1e5p1_0", 0x1e5 * 1024.0);
        readsSingle("12.5", 12.5f);
        readsSingle("0x1.8p1", 3);
        readsSingle("1e10", 1e10f);
    }

    private static void theNearestDouble() {
        reads("9007199254740991.4", 9007199254740991.0);
        reads("9007199254740993", 9007199254740992.0);
        reads("9007199254740995", 9007199254740996.0);
        reads("9007199254740993.0000000000000000000000000001", 9007199254740994.0);
        reads("9007199254740992.9999999999999999999999999999", 9007199254740992.0);
        reads("2.2250738585072014e-308", Double.MIN_NORMAL);
        reads("2.2250738585072011e-308", Math.nextDown(Double.MIN_NORMAL));
        reads("2.2250738585072012e-308", Double.MIN_NORMAL);
        reads("." + "9".repeat(TEXT_LIMIT - 1), 1);
        reads("." + "9".repeat(1190) + "e-300", 1e-300);
        reads("9".repeat(308), 1e308);
        reads("9".repeat(1190) + "e-1190", 1);
    }

    private static void theNearestFloat() {
        readsSingle("1.17549435e-38", Float.MIN_NORMAL);
        readsSingle("16777217", 16777216f);
        readsSingle("16777219", 16777220f);
        // By way of a double these would be rounded twice.
        readsSingle("16777217.000000001", 16777218f);
        readsSingle("1.00000017881393432617187499", 1.0000001f);
        readsSingle("1.00000017881393432617187500", 1.0000002f);
        readsSingle("1.00000017881393432617187501", 1.0000002f);
        readsSingle("." + "9".repeat(TEXT_LIMIT - 1), 1);
    }

    private static void theNearestInHex() {
        reads("0x1.00000000000007ffffffffffffp0", 1);
        reads("0x1.00000000000008" + "0".repeat(1100) + "1p0", Math.nextUp(1.0));
        reads("0x1." + "0".repeat(1100) + "1p-1075", Double.MIN_VALUE);
        reads("0x1.fffffffffffff8p0", 2);
        reads("0x0.fffffffffffff8p-1022", Double.MIN_NORMAL);
        reads("0x0.fffffffffffff7p-1022", Math.nextDown(Double.MIN_NORMAL));
        readsSingle("0x1.0000010000000000000001p0", Math.nextUp(1f));
        readsSingle("0x1.000000ffffffffffffffffp0", 1);
        readsSingle("0x1.ffffffp0", 2);
        readsSingle("0x0.ffffffp-126", Float.MIN_NORMAL);
    }

    private static void middlesOfDoubles() {
        double[] all = {Double.MIN_VALUE, 2 * Double.MIN_VALUE, Math.nextDown(Double.MIN_NORMAL),
            Double.MIN_NORMAL, 0.1, Math.nextDown(1.0), 1, Math.nextUp(1.0), 1e23,
            9007199254740991.0, 9007199254740992.0, 1e300, Math.nextDown(Double.MAX_VALUE)};
        for (double below : all) {
            middle(Check.bits(below), false);
        }
    }

    private static void middlesOfFloats() {
        float[] all = {Float.MIN_VALUE, 2 * Float.MIN_VALUE, Math.nextDown(Float.MIN_NORMAL),
            Float.MIN_NORMAL, 0.1f, Math.nextDown(1f), 1, Math.nextUp(1f), 1e10f, 16777215f,
            16777216f, 1e38f, Math.nextDown(Float.MAX_VALUE)};
        for (float below : all) {
            middle(Check.bits(below), true);
        }
    }

    /** The middle of two numbers, to its last digit, and what lies just beside it. */
    private static void middle(long bits, boolean single) {
        BigDecimal exact = Exact.middleAbove(bits, single);
        String digits = exact.toPlainString();
        String middle = digits.indexOf('.') < 0 ? digits + "." : digits;
        long even = (bits & 1) == 0 ? bits : bits + 1;
        readsBits(middle, single, even);
        readsBits(middle + "0".repeat(TEXT_LIMIT - middle.length()), single, even);
        readsBits(middle + "0".repeat(TEXT_LIMIT - 1 - middle.length()) + "1", single, bits + 1);
        BigDecimal step = BigDecimal.ONE.movePointLeft(TEXT_LIMIT - 1 - middle.indexOf('.'));
        readsBits(exact.subtract(step).toPlainString(), single, bits);
    }

    private static void readsBits(String text, boolean single, long due) {
        Check.same("read(" + single + ") of " + text, Check.readOutcome(text, single),
                Long.toString(due));
    }

    private static void middlesInHex() {
        reads("0x1.00000000000008p0", 1);
        reads("0x1.00000000000018p0", Math.nextUp(Math.nextUp(1.0)));
        reads("0x1.8p-1074", 2 * Double.MIN_VALUE);
        reads("0x2.8p-1074", 2 * Double.MIN_VALUE);
        reads("0x20000000000001p0", 9007199254740992.0);
        reads("0x20000000000003p0", 9007199254740996.0);
        readsSingle("0x1.000001p0", 1);
        readsSingle("0x1.000003p0", Math.nextUp(Math.nextUp(1f)));
        readsSingle("0x1.8p-149", 2 * Float.MIN_VALUE);
        readsSingle("0x2.8p-149", 2 * Float.MIN_VALUE);
    }

    private static void whatIsZero() {
        String nines = "9".repeat(1100);
        String[] all = {"0", "0.", ".0", "0.0", "000", "0e0", "0e1", "0e-1", "0e309", "0e-400",
            "0e2147483647", "0e2147483648", "0e-2147483649", "0e9223372036854775808", "0e" + nines,
            "0.e+" + nines, "0.000e-" + nines, ".0E" + nines, "0x0p0", "0x0p1024", "0x0p-2000",
            "0x0p4294967296", "0x0.0p" + nines, "0x.0p-" + nines, "0X0.P+" + nines, "0_0.0_0e-5_0",
            "0".repeat(TEXT_LIMIT), "0." + "0".repeat(TEXT_LIMIT - 2)};
        for (String one : all) {
            reads(one, 0.0);
            readsSingle(one, 0.0f);
        }
    }

    private static void exponentsWithManyDigits() {
        reads("1e" + "0".repeat(1000) + "2", 100);
        reads("1e-" + "0".repeat(1000) + "2", 0.01);
        reads("0x1p" + "0".repeat(1000) + "2", 4);
        reads("0x1p-" + "0".repeat(1000) + "2", 0.25);
        reads("1e+" + "0_".repeat(500) + "2", 100);
    }

    /** Digits of no weight, on either side of the point, that an exponent makes up for. */
    private static void pointsFarAway() {
        reads("1" + "0".repeat(1193) + "e-1193", 1);
        reads("1" + "0".repeat(1190) + ".e-1190", 1);
        reads("1" + "0".repeat(1190) + "e-1500", 1e-310);
        reads("." + "0".repeat(1190) + "1e1191", 1);
        reads("." + "0".repeat(1190) + "1e1491", 1e300);
        reads("0_".repeat(599) + "07", 7);
        reads("1" + "_".repeat(1198) + "7", 17);
        reads("0x." + "0".repeat(1100) + "1p4404", 1);
        reads("0x1" + "0".repeat(1100) + "p-4400", 1);
        reads("0x" + "0".repeat(1100) + "1p1", 2);
    }

    private static void asAFloatAndAsADouble() {
        RealText x = new RealText();
        String[] all = {"0.1", "1e30", "16777217", "0x1.0000011p0", "1e-40"};
        for (String one : all) {
            for (boolean single : new boolean[] {false, true, true, false}) {
                Check.put(x, one);
                Check.same("read(" + single + ") of " + one, Check.outcome(() -> x.read(single)),
                        Exact.read(one, single));
            }
        }
    }

    private static void theTextIsEmptyInAnyCase() {
        String[] all = {"1", "0", "0x1p1", "", "x", "1_", "1e400", "1e-400", "0x1p9999",
            "0".repeat(TEXT_LIMIT), "9".repeat(TEXT_LIMIT), "_".repeat(TEXT_LIMIT)};
        for (String one : all) {
            for (boolean single : new boolean[] {false, true}) {
                RealText x = Check.withText(one);
                String first = Check.outcome(() -> x.read(single));
                Check.same("read of " + one, first, Exact.read(one, single));
                Check.same("count(0) behind " + one, x.count(0), 0);
                Check.fails("read again", () -> x.read(single), IllegalArgumentException.class);
                Check.same("text behind " + one, x.text(Check.word("25")), 2);
                Check.answers("read of that", () -> x.read(false), Check.bits(25.0));
            }
        }
    }

    private static void aReadLeavesWhatIsWritten() {
        String[] all = {"1", "", "x", "1e400", "1e-400"};
        for (String one : all) {
            RealText x = Check.withText(one);
            x.write(Check.bits(1.25), false);
            Check.outcome(() -> x.read(false));
            Check.same("written behind " + one, Check.takeAll(x), "1.25");
        }
    }
}
