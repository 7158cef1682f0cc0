/** Promise 4: how numbers are written, at the edges that the document names. */
public final class WriteTest {
    public static void main(String[] args) {
        specialOnes();
        edgesOfTheLayout();
        fewestDigits();
        oneDigitCountsAsTwo();
        edgesOfDouble();
        edgesOfFloat();
        upperBitsOfAFloat();
        whatWasBeforeIsGone();
        Check.end();
    }

    private static void writes(double number, String due) {
        Check.same("write of " + due, Check.writtenText(Double.doubleToRawLongBits(number), false),
                due);
        Check.same("write of -" + due,
                Check.writtenText(Double.doubleToRawLongBits(-number), false), "-" + due);
    }

    private static void writesSingle(float number, String due) {
        long bits = Float.floatToRawIntBits(number) & 0xFFFFFFFFL;
        Check.same("single write of " + due, Check.writtenText(bits, true), due);
        Check.same("single write of -" + due, Check.writtenText(bits ^ 0x80000000L, true),
                "-" + due);
    }

    private static void specialOnes() {
        writes(Double.POSITIVE_INFINITY, "Infinity");
        writesSingle(Float.POSITIVE_INFINITY, "Infinity");
        writes(0.0, "0.0");
        writesSingle(0.0f, "0.0");
        long[] doubles = {0x7FF8000000000000L, 0x7FF0000000000001L, 0x7FFFFFFFFFFFFFFFL,
            0xFFF8000000000000L, 0xFFF0000000000001L, -1L};
        for (long bits : doubles) {
            Check.same("write of NaN", Check.writtenText(bits, false), "NaN");
        }
        long[] floats = {0x7FC00000L, 0x7F800001L, 0x7FFFFFFFL, 0xFFC00000L, 0xFF800001L, -1L};
        for (long bits : floats) {
            Check.same("single write of NaN", Check.writtenText(bits, true), "NaN");
        }
    }

    private static void edgesOfTheLayout() {
        writes(1, "1.0");
        writes(10, "10.0");
        writes(12, "12.0");
        writes(0.5, "0.5");
        writes(123.456, "123.456");
        writes(0.001, "0.001");
        writes(0.0012, "0.0012");
        writes(0.01, "0.01");
        writes(Math.nextDown(0.001), "9.999999999999998E-4");
        writes(0.0001, "1.0E-4");
        writes(0.00012, "1.2E-4");
        writes(9999999, "9999999.0");
        writes(1234567, "1234567.0");
        writes(1000000, "1000000.0");
        writes(9999999.5, "9999999.5");
        writes(Math.nextDown(1e7), "9999999.999999998");
        writes(1e7, "1.0E7");
        writes(12345678, "1.2345678E7");
        writes(1e10, "1.0E10");
        writes(1e100, "1.0E100");
        writes(1e-10, "1.0E-10");
        writes(1e-100, "1.0E-100");
        writesSingle(0.001f, "0.001");
        writesSingle(Math.nextDown(0.001f), "9.999999E-4");
        writesSingle(1e7f, "1.0E7");
        writesSingle(9999999f, "9999999.0");
        writesSingle(100f, "100.0");
        writesSingle(1.5e-5f, "1.5E-5");
    }

    private static void fewestDigits() {
        writes(0.1, "0.1");
        writes(0.3, "0.3");
        writes(0.1 + 0.2, "0.30000000000000004");
        writes(2e23, "2.0E23");
        writes(1e23, "1.0E23");
        writes(Math.nextDown(1e23), "9.999999999999997E22");
        writes(1e21, "1.0E21");
        writes(8.41e21, "8.41E21");
        writes(2.0e-3, "0.002");
        writes(5e-322, "5.0E-322");
        writes(100 * Double.MIN_VALUE, "4.94E-322");
        writes(9007199254740992.0, "9.007199254740992E15");
        writes(9007199254740994.0, "9.007199254740994E15");
        writes(18014398509481984.0, "1.8014398509481984E16");
        writes(4.8726570057E288, "4.8726570057E288");
        writes(2.0E-2, "0.02");
        writes(Math.PI, "3.141592653589793");
        writes(2.2250738585072011e-308, "2.225073858507201E-308");
        writesSingle(0.1f, "0.1");
        writesSingle(3.4e10f, "3.4E10");
        writesSingle(1.0e10f, "1.0E10");
        writesSingle(33554432f, "3.3554432E7");
        writesSingle(16777216f, "1.6777216E7");
        writesSingle(2e-44f, "2.0E-44");
        writesSingle(1.1754944e-38f, "1.1754944E-38");
        // A power of two: the decimal next below it is read as the number before.
        writes(0x1p-44, "5.684341886080802E-14");
        writes(9.5367431640625E-7, "9.5367431640625E-7");
    }

    private static void oneDigitCountsAsTwo() {
        writes(Double.MIN_VALUE, "4.9E-324");
        writes(2 * Double.MIN_VALUE, "9.9E-324");
        writes(3 * Double.MIN_VALUE, "1.5E-323");
        writes(4 * Double.MIN_VALUE, "2.0E-323");
        writes(5 * Double.MIN_VALUE, "2.5E-323");
        writesSingle(Float.MIN_VALUE, "1.4E-45");
        writesSingle(2 * Float.MIN_VALUE, "2.8E-45");
        writesSingle(3 * Float.MIN_VALUE, "4.2E-45");
        writesSingle(7 * Float.MIN_VALUE, "9.8E-45");
    }

    private static void edgesOfDouble() {
        writes(Double.MAX_VALUE, "1.7976931348623157E308");
        writes(Math.nextDown(Double.MAX_VALUE), "1.7976931348623155E308");
        writes(Double.MIN_NORMAL, "2.2250738585072014E-308");
        writes(Math.nextDown(Double.MIN_NORMAL), "2.225073858507201E-308");
        writes(Math.nextUp(Double.MIN_NORMAL), "2.225073858507202E-308");
    }

    private static void edgesOfFloat() {
        writesSingle(Float.MAX_VALUE, "3.4028235E38");
        writesSingle(Math.nextDown(Float.MAX_VALUE), "3.4028233E38");
        writesSingle(Float.MIN_NORMAL, "1.1754944E-38");
        writesSingle(Math.nextDown(Float.MIN_NORMAL), "1.1754942E-38");
    }

    private static void upperBitsOfAFloat() {
        Check.same("upper bits", Check.writtenText(0xFFFFFFFF3F800000L, true), "1.0");
        Check.same("upper bits", Check.writtenText(0x7FF0000100000000L, true), "0.0");
        Check.same("upper bits", Check.writtenText(0x00000000BF800000L, true), "-1.0");
        Check.same("upper bits", Check.writtenText(0x80000000BF800000L, true), "-1.0");
        Check.same("a small double", Check.writtenText(0x3F800000L, false), "5.263544247E-315");
    }

    private static void whatWasBeforeIsGone() {
        RealText x = new RealText();
        Check.put(x, "1.5");
        x.write(Double.doubleToRawLongBits(Double.MAX_VALUE), false);
        Check.same("write", x.write(0, false), 3);
        Check.same("written", Check.takeAll(x), "0.0");
        Check.answers("the text is as it was", () -> x.read(false),
                Double.doubleToRawLongBits(1.5));
    }
}
