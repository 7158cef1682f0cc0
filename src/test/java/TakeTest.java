/** Promise 5: eight characters at a time, the first one highest. */
public final class TakeTest {
    public static void main(String[] args) {
        Check.same("of nothing", new RealText().take(), 0L);
        ofManyLengths();
        isGoneWithTheNextWrite();
        leavesTheTextAlone();
        Check.end();
    }

    private static void ofManyLengths() {
        takes(0x8000000000000000L, "-0.0");
        takes(Double.doubleToRawLongBits(1), "1.0");
        takes(0x7FF0000000000000L, "Infinity");
        takes(0xFFF0000000000000L, "-Infinit", "y");
        takes(Double.doubleToRawLongBits(1234567.5), "1234567.", "5");
        takes(Double.doubleToRawLongBits(-Double.MIN_NORMAL), "-2.22507", "38585072", "014E-308");
        takes(Double.doubleToRawLongBits(Double.MIN_NORMAL), "2.225073", "85850720", "14E-308");
    }

    private static void takes(long bits, String... words) {
        RealText x = new RealText();
        int left = x.write(bits, false);
        for (String word : words) {
            Check.same("count(1) before " + word, x.count(1), left);
            Check.same("take() of " + word, x.take(), Check.word(word));
            left -= word.length();
        }
        Check.same("count(1) at the end", x.count(1), 0);
        Check.same("take() at the end", x.take(), 0L);
        Check.same("take() behind the end", x.take(), 0L);
    }

    private static void isGoneWithTheNextWrite() {
        RealText x = new RealText();
        x.write(0xFFF0000000000000L, false);
        x.take();
        Check.same("write", x.write(0, true), 3);
        Check.same("take", x.take(), Check.word("0.0"));
    }

    private static void leavesTheTextAlone() {
        RealText x = new RealText();
        Check.put(x, "5");
        x.write(0, false);
        x.take();
        x.take();
        Check.same("count(0)", x.count(0), 1);
        Check.answers("read", () -> x.read(false), Double.doubleToRawLongBits(5));
    }
}
