/** Promise 5: eight characters at a time, the first one highest, and fewer at the end. */
public final class TakeTest {
    private static final int AT_ONCE = 8;
    private static final int LONGEST = 24;

    public static void main(String[] args) {
        ofNothing();
        theFirstOneIsHighest();
        everyLengthOfARest();
        ofFloats();
        nothingIsLeftBehindBack();
        isGoneWithTheNextWrite();
        leavesTheTextAndTheCounts();
        Check.end();
    }

    private static void ofNothing() {
        RealText x = new RealText();
        Check.same("take()", x.take(), 0L);
        Check.same("take() again", x.take(), 0L);
        Check.same("count(1)", x.count(1), 0);
    }

    private static void theFirstOneIsHighest() {
        takes(0x7FF0000000000000L, false, "Infinity");
        takes(0xFFF0000000000000L, false, "-Infinit", "y");
        takes(0x8000000000000000L, false, "-0.0");
        takes(Check.bits(1.0), false, "1.0");
        takes(Check.bits(1234567.5), false, "1234567.", "5");
        takes(Check.bits(-Double.MIN_NORMAL), false, "-2.22507", "38585072", "014E-308");
        takes(Check.bits(Double.MIN_NORMAL), false, "2.225073", "85850720", "14E-308");
    }

    /** As a number of so many bytes: nothing stands below the last character. */
    private static void everyLengthOfARest() {
        boolean[] isSeen = new boolean[LONGEST + 1];
        double[] all = {1, 12, 123, 1234, 12345, 123456, 1234567, 1234567.5, 1234567.25,
            1234567.125, 1.2345678901, 1.23456789012, 1.234567890123, 1.2345678901234,
            1.23456789012345, 1.234567890123456, 1.2345678901234567, 0.0012345678901234567, 1.5e-7,
            1.5e-10, 1.5e-100, 1.2345678901234e-7, 1.23456789012345e-10, 1.23456789012345e-100,
            1.234567890123456e-100, Double.MIN_NORMAL};
        for (double number : all) {
            for (double signed : new double[] {number, -number}) {
                String due = Exact.written(Check.bits(signed), false);
                isSeen[due.length()] = true;
                takes(Check.bits(signed), false, due.split("(?<=\\G.{8})"));
            }
        }
        for (int length = 3; length <= LONGEST; length++) {
            Check.same("a text of " + length + " was taken", isSeen[length], true);
        }
    }

    private static void ofFloats() {
        takes(0x80000000L, true, "-0.0");
        takes(0x7FC00000L, true, "NaN");
        takes(Check.bits(-Float.MIN_NORMAL), true, "-1.17549", "44E-38");
    }

    private static void takes(long bits, boolean single, String... words) {
        RealText x = new RealText();
        int left = x.write(bits, single);
        for (String word : words) {
            Check.same("count(1) before " + word, x.count(1), left);
            Check.same("take() of " + word, x.take(), Check.word(word));
            left -= word.length();
            Check.same("only the last is short: " + word, left == 0 || word.length() == AT_ONCE,
                    true);
        }
        Check.same("count(1) at the end", x.count(1), 0);
        Check.same("take() at the end", x.take(), 0L);
        Check.same("take() behind the end", x.take(), 0L);
        Check.same("count(1) behind the end", x.count(1), 0);
    }

    private static void nothingIsLeftBehindBack() {
        RealText x = new RealText();
        x.write(0xFFF0000000000000L, false);
        x.back();
        Check.same("take() behind back()", x.take(), 0L);
    }

    private static void isGoneWithTheNextWrite() {
        RealText x = new RealText();
        x.write(0xFFF0000000000000L, false);
        x.take();
        Check.same("write", x.write(0, true), 3);
        Check.same("take", x.take(), Check.word("0.0"));
        Check.same("take", x.take(), 0L);
    }

    private static void leavesTheTextAndTheCounts() {
        RealText x = Check.withText("5");
        x.write(0, false);
        x.take();
        x.take();
        Check.counts("behind take", x, 1, 0, 0, 0, 0);
        Check.answers("read", () -> x.read(false), Check.bits(5.0));
    }
}
