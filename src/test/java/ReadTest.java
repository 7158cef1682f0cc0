/** Promise 3: what is a literal, and how it is read at the edges that the document names. */
public final class ReadTest {
    private static final String NO_LITERAL = "throws.IllegalArgumentException";
    private static final String OUT_OF_RANGE = "throws.ArithmeticException";

    public static void main(String[] args) {
        everyForm();
        noLiterals();
        zeros();
        edgesOfDouble();
        edgesOfFloat();
        edgesInHex();
        middles();
        longOnes();
        theTextIsEmptyInAnyCase();
        Check.end();
    }

    private static void reads(String letters, double due) {
        Check.same("read(false) of " + letters, Check.readOutcome(letters, false),
                Long.toString(Double.doubleToRawLongBits(due)));
    }

    private static void readsSingle(String letters, float due) {
        Check.same("read(true) of " + letters, Check.readOutcome(letters, true),
                Long.toString(Float.floatToRawIntBits(due)));
    }

    private static void outcome(String letters, boolean single, String due) {
        Check.same("read(" + single + ") of " + letters, Check.readOutcome(letters, single), due);
    }

    private static void everyForm() {
        reads("12.", 12);
        reads("12.5", 12.5);
        reads("12.e1", 120);
        reads("12.5E+1", 125);
        reads("12.5e-1", 1.25);
        reads(".5", 0.5);
        reads(".5e3", 500);
        reads("7", 7);
        reads("7E2", 700);
        reads("007", 7);
        reads("1_0__0.2_5e0_1", 1002.5);
        reads("1e+0_0_1", 10);
        reads("0x1p0", 1);
        reads("0X1.P+4", 16);
        reads("0x1.8p1", 3);
        reads("0x.8P-1", 0.25);
        reads("0xAbCdEfp0", 0xABCDEF);
        reads("0xf_F.8__0p0_1", 511);
        reads("0x1e5p1_0", 0x1e5 * 1024.0);
        readsSingle("12.5", 12.5f);
        readsSingle("0x1.8p1", 3);
        readsSingle("1e10", 1e10f);
    }

    private static void noLiterals() {
        String[] all = {"", " ", " 1", "1 ", "+1", "-1", "-0.0", ".", "e", "e1", ".e1", "1e", "1e+",
            "1e-", "1e+-1", "1e1.", "1e1e1", "1.2.3", "1..2", "_1", "1_", "1_.5", "1._5", "1.5_",
            "1_e5", "1e_5", "1e5_", "1e+_5", "._5", "_.5", "1,5", "1f", "1d", "1.0F", "1.0D", "NaN",
            "Infinity", "a", "1a", "0x", "0x1", "0x1.", "0x1.8", "0x.p1", "0xp1", "0x1p", "0x1p+",
            "0x1.8p", "0x_1p1", "0x1_p1", "0x1p_1", "0x1p1_", "0x1_.8p1", "0x1._8p1", "0x1.8_p1",
            "0_x1p1", "00x1p1", "x1p1", "1p1", "0x1e1", "0x1g1p1", "0x1p1f", "0x1pa", "0x1p0x1",
            "0x1.1.1p1", "0x0x1p1", "0x-1p1", "-0x1p1", "0x1p1 ", " 0x1p1", "1e1p1", "0x1p1p1",
            "0x1p1.", "0x1p1e1", "1\"", "1~", "0x1P++1", "__", "_", "1e__1", "0x._8p1", "0x_.8p1"};
        for (String one : all) {
            outcome(one, false, NO_LITERAL);
            outcome(one, true, NO_LITERAL);
        }
        outcome("1".repeat(1199) + "_", false, NO_LITERAL);
        outcome("_" + "1".repeat(1199), false, NO_LITERAL);
        outcome("1e99999999999999999999x", false, NO_LITERAL);
    }

    private static void zeros() {
        String nines = "9".repeat(1100);
        String[] all = {"0", "0.", ".0", "0.0", "000", "0e0", "0e" + nines, "0.000e-" + nines,
            "0x0p0", "0x0.0p" + nines, "0x.0p-" + nines, "0X0.P+" + nines, "0_0.0_0e-5_0"};
        for (String one : all) {
            reads(one, 0.0);
            readsSingle(one, 0.0f);
        }
    }

    private static void edgesOfDouble() {
        reads("1.7976931348623157e308", Double.MAX_VALUE);
        reads("1.7976931348623158e308", Double.MAX_VALUE);
        outcome("1.7976931348623159e308", false, OUT_OF_RANGE);
        outcome("1e309", false, OUT_OF_RANGE);
        outcome("1e310", false, OUT_OF_RANGE);
        outcome("1e311", false, OUT_OF_RANGE);
        outcome("1e2147483648", false, OUT_OF_RANGE);
        outcome("1e4294967296", false, OUT_OF_RANGE);
        outcome("1e-2147483649", false, OUT_OF_RANGE);
        outcome("1e-4294967296", false, OUT_OF_RANGE);
        outcome("1e18446744073709551617", false, OUT_OF_RANGE);
        outcome("1e" + "9".repeat(1198), false, OUT_OF_RANGE);
        outcome("1e-" + "9".repeat(1197), false, OUT_OF_RANGE);
        outcome("1e-324", false, OUT_OF_RANGE);
        outcome("2e-324", false, OUT_OF_RANGE);
        reads("3e-324", Double.MIN_VALUE);
        reads("4.9e-324", Double.MIN_VALUE);
        reads("2.2250738585072014e-308", Double.MIN_NORMAL);
        reads("2.2250738585072011e-308", Math.nextDown(Double.MIN_NORMAL));
        reads("2.2250738585072012e-308", Double.MIN_NORMAL);
        reads("9007199254740993", 9007199254740992.0);
        reads("9007199254740995", 9007199254740996.0);
        reads("9007199254740993.0000000000000000000000000001", 9007199254740994.0);
        reads("1e" + "0".repeat(1000) + "2", 100);
        reads("1e-" + "0".repeat(1000) + "2", 0.01);
    }

    private static void edgesOfFloat() {
        readsSingle("3.4028235e38", Float.MAX_VALUE);
        readsSingle("3.4028235677973366e38", Float.MAX_VALUE);
        outcome("340282356779733661637539395458142568448", true, OUT_OF_RANGE);
        readsSingle("340282356779733661637539395458142568447.999", Float.MAX_VALUE);
        outcome("3.402823567797337e38", true, OUT_OF_RANGE);
        outcome("1e300", true, OUT_OF_RANGE);
        outcome("7e-46", true, OUT_OF_RANGE);
        readsSingle("7.1e-46", Float.MIN_VALUE);
        outcome("1e-300", true, OUT_OF_RANGE);
        readsSingle("1.17549435e-38", Float.MIN_NORMAL);
        readsSingle("16777217", 16777216f);
        readsSingle("16777219", 16777220f);
        // By way of a double these would be rounded twice.
        readsSingle("16777217.000000001", 16777218f);
        readsSingle("1.00000017881393432617187499", 1.0000001f);
        readsSingle("1.00000017881393432617187500", 1.0000002f);
        readsSingle("1.00000017881393432617187501", 1.0000002f);
    }

    private static void edgesInHex() {
        reads("0x1.fffffffffffffp1023", Double.MAX_VALUE);
        reads("0x1.fffffffffffff7ffffp1023", Double.MAX_VALUE);
        outcome("0x1.fffffffffffff8p1023", false, OUT_OF_RANGE);
        outcome("0x1p1024", false, OUT_OF_RANGE);
        for (int power = 1023; power < 1030; power++) {
            outcome("0x1.fffffffffffffffffffp" + power, false, OUT_OF_RANGE);
        }
        for (int power = 127; power < 134; power++) {
            outcome("0x1.ffffffffffp" + power, true, OUT_OF_RANGE);
        }
        outcome("0x1p2147483648", false, OUT_OF_RANGE);
        outcome("0x1p-2147483648", false, OUT_OF_RANGE);
        outcome("0x1p999999999999999999999", false, OUT_OF_RANGE);
        reads("0x1p-1074", Double.MIN_VALUE);
        outcome("0x1p-1075", false, OUT_OF_RANGE);
        outcome("0x1p-1076", false, OUT_OF_RANGE);
        outcome("0x1p-1150", false, OUT_OF_RANGE);
        reads("0x1.00000000000000000001p-1075", Double.MIN_VALUE);
        reads("0x1.8p-1074", 2 * Double.MIN_VALUE);
        reads("0x1." + "0".repeat(1100) + "1p-1075", Double.MIN_VALUE);
        reads("0x1.00000000000008p0", 1);
        reads("0x1.00000000000008" + "0".repeat(1100) + "1p0", Math.nextUp(1.0));
        reads("0x1.00000000000018p0", Math.nextUp(Math.nextUp(1.0)));
        reads("0x." + "0".repeat(1100) + "1p4404", 1);
        reads("0x1" + "0".repeat(1100) + "p-4400", 1);
        reads("0x" + "0".repeat(1100) + "1p1", 2);
        readsSingle("0x1.fffffep127", Float.MAX_VALUE);
        readsSingle("0x1.fffffeffp127", Float.MAX_VALUE);
        outcome("0x1.ffffffp127", true, OUT_OF_RANGE);
        readsSingle("0x1p-149", Float.MIN_VALUE);
        outcome("0x1p-150", true, OUT_OF_RANGE);
        readsSingle("0x1.000001p-150", Float.MIN_VALUE);
        readsSingle("0x1.000001p0", 1);
        readsSingle("0x1.0000010000000000000001p0", Math.nextUp(1f));
        readsSingle("0x1.000003p0", Math.nextUp(Math.nextUp(1f)));
    }

    /** The middle of two numbers, to its last digit, and what lies just beside it. */
    private static void middles() {
        middle(Double.MIN_NORMAL);
        middle(Math.nextDown(Double.MIN_NORMAL));
        middle(Double.MIN_VALUE);
        middle(1);
        middle(0.1);
        middle(1e23);
        middle(Math.nextDown(Double.MAX_VALUE));
        String top = Check.middleAbove(Check.infinity(false) - 1, false).toPlainString();
        outcome(top, false, OUT_OF_RANGE);
        outcome(top + "." + "0".repeat(800), false, OUT_OF_RANGE);
        reads(new java.math.BigDecimal(top).subtract(java.math.BigDecimal.ONE).toPlainString()
                + "." + "9".repeat(800), Double.MAX_VALUE);
        String bottom = Check.middleAbove(0, false).toPlainString();
        outcome(bottom, false, OUT_OF_RANGE);
        reads(bottom + "0000001", Double.MIN_VALUE);
    }

    private static void middle(double below) {
        long bits = Double.doubleToRawLongBits(below);
        String digits = Check.middleAbove(bits, false).toPlainString();
        String longer = digits.indexOf('.') < 0 ? digits + "." : digits;
        double above = Math.nextUp(below);
        reads(longer, (bits & 1) == 0 ? below : above);
        reads(longer + "0".repeat(1200 - longer.length()), (bits & 1) == 0 ? below : above);
        reads(longer + "0".repeat(1199 - longer.length()) + "1", above);
    }

    private static void longOnes() {
        reads("9".repeat(308), 1e308);
        outcome("9".repeat(1200), false, OUT_OF_RANGE);
        outcome("9".repeat(1195) + "e-99", false, OUT_OF_RANGE);
        reads("1" + "0".repeat(1193) + "e-1193", 1);
        reads("1" + "0".repeat(1190) + ".e-1190", 1);
        reads("." + "0".repeat(1190) + "1e1191", 1);
        reads("." + "0".repeat(1190) + "1e1491", 1e300);
        outcome("." + "0".repeat(1190) + "1", false, OUT_OF_RANGE);
        reads("1" + "0".repeat(1190) + "e-1500", 1e-310);
        reads("9".repeat(1190) + "e-1190", 1);
        reads("." + "9".repeat(1199), 1);
        reads("." + "9".repeat(1190) + "e-300", 1e-300);
        reads("0_".repeat(599) + "07", 7);
        reads("1" + "_".repeat(1198) + "7", 17);
    }

    private static void theTextIsEmptyInAnyCase() {
        RealText x = new RealText();
        String[] all = {"1", "", "x", "1e400", "1e-400"};
        for (String one : all) {
            Check.put(x, one);
            x.write(Double.doubleToRawLongBits(1.25), false);
            Check.outcome(() -> x.read(false));
            Check.same("count(0) behind " + one, x.count(0), 0);
            Check.same("written behind " + one, Check.takeAll(x), "1.25");
            Check.fails("read again", () -> x.read(false), IllegalArgumentException.class);
        }
    }
}
