/** Promise 4 and the Terms: how a number is written, at the edges that the document names. */
public final class WriteTest {
    public static void main(String[] args) {
        everyNaN();
        infinityAndZero();
        belowZero();
        plainFromAThousandth();
        plainBelowTenMillions();
        atLeastOneDigitOnEitherSide();
        powersOfTen();
        fewestDigits();
        aMiddleIsReadAsTheEvenOne();
        oneDigitCountsAsTwo();
        theNearest();
        theEvenLastDigit();
        powersOfTwo();
        leastAndGreatestDouble();
        leastAndGreatestFloat();
        lowerBitsOfAFloat();
        asAFloatAndAsADouble();
        whatWasBeforeIsGone();
        theTextStays();
        Check.end();
    }

    private static void writesBits(long bits, boolean single, String due) {
        Check.same("write(" + bits + ", " + single + ")", Check.writtenText(bits, single), due);
    }

    private static void writes(double number, String due) {
        writesBits(Check.bits(number), false, due);
        writesBits(Check.bits(-number), false, "-" + due);
    }

    private static void writesSingle(float number, String due) {
        writesBits(Check.bits(number), true, due);
        writesBits(Check.bits(-number), true, "-" + due);
    }

    private static void everyNaN() {
        long[] doubles = {0x7FF8000000000000L, 0x7FF0000000000001L, 0x7FFFFFFFFFFFFFFFL,
            0xFFF8000000000000L, 0xFFF0000000000001L, -1L, 0x7FF0000080000000L};
        for (long bits : doubles) {
            writesBits(bits, false, "NaN");
        }
        long[] floats = {0x7FC00000L, 0x7F800001L, 0x7FFFFFFFL, 0xFFC00000L, 0xFF800001L, -1L};
        for (long bits : floats) {
            writesBits(bits, true, "NaN");
        }
        for (int i = 0; i < 52; i++) {
            writesBits(0x7FF0000000000000L | 1L << i, false, "NaN");
            writesBits(0xFFF0000000000000L | 1L << i, false, "NaN");
        }
        for (int i = 0; i < 23; i++) {
            writesBits(0x7F800000L | 1L << i, true, "NaN");
            writesBits(0xFF800000L | 1L << i, true, "NaN");
        }
    }

    private static void infinityAndZero() {
        writesBits(0x7FF0000000000000L, false, "Infinity");
        writesBits(0x7F800000L, true, "Infinity");
        writesBits(0, false, "0.0");
        writesBits(0, true, "0.0");
    }

    private static void belowZero() {
        writesBits(0xFFF0000000000000L, false, "-Infinity");
        writesBits(0xFF800000L, true, "-Infinity");
        writesBits(0x8000000000000000L, false, "-0.0");
        writesBits(0x80000000L, true, "-0.0");
        writesBits(0xBFF0000000000000L, false, "-1.0");
        writesBits(0xBF800000L, true, "-1.0");
        writesBits(0x8000000000000001L, false, "-4.9E-324");
        writesBits(0x80000001L, true, "-1.4E-45");
    }

    private static void plainFromAThousandth() {
        writes(0.001, "0.001");
        writes(Math.nextUp(0.001), "0.0010000000000000002");
        writes(Math.nextDown(0.001), "9.999999999999998E-4");
        writes(0.0012, "0.0012");
        writes(0.01, "0.01");
        writes(0.0001, "1.0E-4");
        writes(0.00099, "9.9E-4");
        writesSingle(0.001f, "0.001");
        writesSingle(Math.nextUp(0.001f), "0.0010000002");
        writesSingle(Math.nextDown(0.001f), "9.999999E-4");
        writesSingle(1.5e-5f, "1.5E-5");
    }

    private static void plainBelowTenMillions() {
        writes(1e7, "1.0E7");
        writes(Math.nextUp(1e7), "1.0000000000000002E7");
        writes(Math.nextDown(1e7), "9999999.999999998");
        writes(9999999, "9999999.0");
        writes(9999999.5, "9999999.5");
        writes(10000001, "1.0000001E7");
        writes(12345678, "1.2345678E7");
        writesSingle(1e7f, "1.0E7");
        writesSingle(Math.nextUp(1e7f), "1.0000001E7");
        writesSingle(Math.nextDown(1e7f), "9999999.0");
    }

    private static void atLeastOneDigitOnEitherSide() {
        writes(1, "1.0");
        writes(10, "10.0");
        writes(12, "12.0");
        writes(1000000, "1000000.0");
        writes(1200000, "1200000.0");
        writes(1234567, "1234567.0");
        writes(0.5, "0.5");
        writes(0.05, "0.05");
        writes(123.456, "123.456");
        writes(2e23, "2.0E23");
        writes(2.5e23, "2.5E23");
        writes(2e-23, "2.0E-23");
        writesSingle(100f, "100.0");
        writesSingle(0.25f, "0.25");
        writesSingle(3e20f, "3.0E20");
    }

    private static void powersOfTen() {
        for (int power = -3; power < 7; power++) {
            String due = power < 0 ? "0." + "0".repeat(-power - 1) + "1"
                    : "1" + "0".repeat(power) + ".0";
            writes(Double.parseDouble("1e" + power), due);
            writesSingle(Float.parseFloat("1e" + power), due);
        }
        for (int power = 7; power <= 308; power++) {
            writes(Double.parseDouble("1e" + power), "1.0E" + power);
        }
        for (int power = -4; power >= -321; power--) {
            writes(Double.parseDouble("1e" + power), "1.0E" + power);
        }
        for (int power = 7; power <= 38; power++) {
            writesSingle(Float.parseFloat("1e" + power), "1.0E" + power);
        }
        for (int power = -4; power >= -42; power--) {
            writesSingle(Float.parseFloat("1e" + power), "1.0E" + power);
        }
    }

    private static void fewestDigits() {
        writes(0.1, "0.1");
        writes(0.3, "0.3");
        writes(0.1 + 0.2, "0.30000000000000004");
        writes(1e21, "1.0E21");
        writes(8.41e21, "8.41E21");
        writes(2.0e-3, "0.002");
        writes(5e-322, "5.0E-322");
        writes(100 * Double.MIN_VALUE, "4.94E-322");
        writes(9007199254740992.0, "9.007199254740992E15");
        writes(9007199254740994.0, "9.007199254740994E15");
        writes(4.8726570057E288, "4.8726570057E288");
        writes(Math.PI, "3.141592653589793");
        writes(2.2250738585072011e-308, "2.225073858507201E-308");
        writesSingle(0.1f, "0.1");
        writesSingle(3.4e10f, "3.4E10");
        writesSingle(1.0e10f, "1.0E10");
        writesSingle(16777216f, "1.6777216E7");
        writesSingle(2e-44f, "2.0E-44");
    }

    /** The shorter decimal is such a middle, and belongs to one of the two alone. */
    private static void aMiddleIsReadAsTheEvenOne() {
        writes(1e23, "1.0E23");
        writes(Math.nextUp(1e23), "1.0000000000000001E23");
        writes(Math.nextDown(1e23), "9.999999999999997E22");
        writesSingle(67108896f, "6.71089E7");
        writesSingle(67108904f, "6.7108904E7");
        writesSingle(67109104f, "6.71091E7");
        writesSingle(67109096f, "6.7109096E7");
    }

    /** One digit tells them too: 5E-324, 1E-323, 2E-323; but with two there is a nearer one. */
    private static void oneDigitCountsAsTwo() {
        writes(Double.MIN_VALUE, "4.9E-324");
        writes(2 * Double.MIN_VALUE, "9.9E-324");
        writes(3 * Double.MIN_VALUE, "1.5E-323");
        writes(4 * Double.MIN_VALUE, "2.0E-323");
        writes(5 * Double.MIN_VALUE, "2.5E-323");
        writes(20 * Double.MIN_VALUE, "9.9E-323");
        writesSingle(Float.MIN_VALUE, "1.4E-45");
        writesSingle(2 * Float.MIN_VALUE, "2.8E-45");
        writesSingle(3 * Float.MIN_VALUE, "4.2E-45");
        writesSingle(7 * Float.MIN_VALUE, "9.8E-45");
        writesSingle(71 * Float.MIN_VALUE, "9.9E-44");
    }

    private static void theNearest() {
        writes(2.2250738585072014e-308, "2.2250738585072014E-308");
        writes(9007199254740996.0, "9.007199254740996E15");
        writes(18014398509481984.0, "1.8014398509481984E16");
        writes(36028797018963964.0, "3.6028797018963964E16");
        writesSingle(33554432f, "3.3554432E7");
        writesSingle(33554436f, "3.3554436E7");
        writesSingle(8.5f, "8.5");
    }

    /** Two decimals of the fewest digits are as near, both read as the number. */
    private static void theEvenLastDigit() {
        writes(1125899906842624.25, "1.1258999068426242E15");
        writes(1125899906842624.75, "1.1258999068426248E15");
        writes(1125899906842625.25, "1.1258999068426252E15");
        writes(1125899906842629.75, "1.1258999068426298E15");
        writesSingle(2097152.25f, "2097152.2");
        writesSingle(2097152.75f, "2097152.8");
        writesSingle(2097159.75f, "2097159.8");
        writesSingle(4194303.25f, "4194303.2");
        writes(0x1p-44, "5.684341886080802E-14");
    }

    /** The number below is half as far away as the one above; not so at the least normal one. */
    private static void powersOfTwo() {
        writes(9.5367431640625E-7, "9.5367431640625E-7");
        writes(0x1p89, "6.189700196426902E26");
        writes(0x1p-1021, "4.450147717014403E-308");
        writes(0x1p-1022, "2.2250738585072014E-308");
        writesSingle(0x1p-126f, "1.1754944E-38");
        writesSingle(0x1p-125f, "2.3509887E-38");
        writesSingle(0x1p90f, "1.2379401E27");
    }

    private static void leastAndGreatestDouble() {
        writes(Double.MAX_VALUE, "1.7976931348623157E308");
        writes(Math.nextDown(Double.MAX_VALUE), "1.7976931348623155E308");
        writes(Double.MIN_NORMAL, "2.2250738585072014E-308");
        writes(Math.nextDown(Double.MIN_NORMAL), "2.225073858507201E-308");
        writes(Math.nextUp(Double.MIN_NORMAL), "2.225073858507202E-308");
        writes(Double.MIN_VALUE, "4.9E-324");
    }

    private static void leastAndGreatestFloat() {
        writesSingle(Float.MAX_VALUE, "3.4028235E38");
        writesSingle(Math.nextDown(Float.MAX_VALUE), "3.4028233E38");
        writesSingle(Float.MIN_NORMAL, "1.1754944E-38");
        writesSingle(Math.nextDown(Float.MIN_NORMAL), "1.1754942E-38");
        writesSingle(Float.MIN_VALUE, "1.4E-45");
    }

    private static void lowerBitsOfAFloat() {
        long[] upper = {0xFFFFFFFF00000000L, 0x8000000000000000L, 0x7FF0000100000000L,
            0x0000000100000000L, 0x7F80000000000000L, 0x3F80000000000000L};
        for (long bits : upper) {
            writesBits(bits, true, "0.0");
            writesBits(bits | 0x3F800000L, true, "1.0");
            writesBits(bits | 0xBF800000L, true, "-1.0");
            writesBits(bits | 0x7F800000L, true, "Infinity");
            writesBits(bits | 0x7F800001L, true, "NaN");
            writesBits(bits | 0x80000000L, true, "-0.0");
        }
    }

    private static void asAFloatAndAsADouble() {
        writesBits(0x3F800000L, true, "1.0");
        writesBits(0x3F800000L, false, "5.263544247E-315");
        writesBits(0x3FB999999999999AL, false, "0.1");
        writesBits(0x3FB999999999999AL, true, "-1.5881868E-23");
        writesBits(Check.bits((double) 0.1f), false, "0.10000000149011612");
    }

    private static void whatWasBeforeIsGone() {
        RealText x = new RealText();
        long[] all = {Check.bits(-Double.MIN_NORMAL), 0, 0x7FF8000000000000L, Check.bits(1e100),
            0xFFF0000000000000L, Check.bits(0.5), 0x7FF0000000000000L, Check.bits(1234567.5)};
        for (long before : all) {
            for (long bits : all) {
                x.write(before, false);
                x.take();
                String due = Exact.written(bits, false);
                Check.same("write of " + due, x.write(bits, false), due.length());
                Check.same("count(1)", x.count(1), due.length());
                Check.same("take()", x.take(),
                        Check.word(due.substring(0, Math.min(8, due.length()))));
            }
        }
    }

    private static void theTextStays() {
        RealText x = Check.withText("1.5");
        x.write(Check.bits(Double.MAX_VALUE), false);
        x.write(-1, true);
        Check.counts("behind write", x, 3, 3, 0, 0, 0);
        Check.answers("read", () -> x.read(false), Check.bits(1.5));
    }
}
