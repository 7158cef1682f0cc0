/** Promise 6: what is written, and not yet taken, becomes the text. */
public final class BackTest {
    private static final int TEXT_LIMIT = 1200;

    public static void main(String[] args) {
        whatIsWrittenBecomesTheText();
        whatTheTextWasIsGone();
        aFullTextIsGoneToo();
        nothingIsWrittenThen();
        onlyWhatWasNotTaken();
        nothingWasLeft();
        theTextGoesOnBehindIt();
        theCountsStay();
        whatIsNoLiteral();
        roundTrips();
        Check.end();
    }

    private static void whatIsWrittenBecomesTheText() {
        RealText x = new RealText();
        x.write(Check.bits(0.25), false);
        Check.same("back()", x.back(), 4);
        Check.same("count(0)", x.count(0), 4);
        Check.answers("read", () -> x.read(false), Check.bits(0.25));
    }

    private static void whatTheTextWasIsGone() {
        for (String before : new String[] {"9", "99999", "1e5", "x", "1_", "999999999999999999"}) {
            RealText x = Check.withText(before);
            x.write(Check.bits(0.25), false);
            Check.same("back() over " + before, x.back(), 4);
            Check.same("count(0)", x.count(0), 4);
            Check.answers("read", () -> x.read(false), Check.bits(0.25));
        }
    }

    private static void aFullTextIsGoneToo() {
        RealText x = Check.withText("9".repeat(TEXT_LIMIT));
        int length = x.write(Check.bits(Double.MIN_NORMAL), false);
        Check.same("back()", x.back(), length);
        Check.same("text", x.text(Check.word("0")), length + 1);
        Check.same("count(0)", x.count(0), length + 1);
        RealText y = Check.withText("9".repeat(TEXT_LIMIT));
        Check.same("back() of nothing", y.back(), 0);
        Check.same("text", y.text(Check.word("12345678")), 8);
        Check.answers("read", () -> y.read(false), Check.bits(12345678.0));
    }

    private static void nothingIsWrittenThen() {
        RealText x = new RealText();
        x.write(Check.bits(-Double.MIN_NORMAL), false);
        x.back();
        Check.same("count(1)", x.count(1), 0);
        Check.same("take()", x.take(), 0L);
        Check.same("back() again", x.back(), 0);
        Check.same("count(0)", x.count(0), 0);
    }

    private static void onlyWhatWasNotTaken() {
        RealText x = new RealText();
        x.write(Check.bits(1234567.875), false);
        x.take();
        Check.same("back()", x.back(), 3);
        Check.answers("read", () -> x.read(true), Check.bits(875f));
        x.write(Check.bits(1.23456789123456e-5), false);
        x.take();
        x.take();
        Check.same("back() of E-5", x.back(), 3);
        Check.fails("read of E-5", () -> x.read(true), IllegalArgumentException.class);
    }

    private static void nothingWasLeft() {
        RealText x = Check.withText("12");
        Check.same("back() of nothing", x.back(), 0);
        Check.same("count(0)", x.count(0), 0);
        Check.fails("read", () -> x.read(false), IllegalArgumentException.class);
        Check.put(x, "12");
        x.write(0, false);
        x.take();
        Check.same("back() when all is taken", x.back(), 0);
        Check.same("count(0)", x.count(0), 0);
        Check.fails("read", () -> x.read(false), IllegalArgumentException.class);
        Check.same("count(3)", x.count(3), 2);
    }

    private static void theTextGoesOnBehindIt() {
        RealText x = new RealText();
        x.write(Check.bits(0.25), false);
        x.back();
        Check.same("text", x.text(Check.word("5e1")), 7);
        x.write(Check.bits(7.0), false);
        Check.answers("read", () -> x.read(false), Check.bits(2.55));
        Check.same("written", Check.takeAll(x), "7.0");
    }

    private static void theCountsStay() {
        RealText x = Check.withText("1");
        x.read(false);
        x.write(0, false);
        x.back();
        Check.counts("behind back", x, 3, 0, 1, 0, 0);
    }

    private static void whatIsNoLiteral() {
        RealText x = new RealText();
        long[] all = {0x8000000000000000L, 0xBFF0000000000000L, 0x7FF0000000000000L,
            0xFFF0000000000000L, 0x7FF8000000000000L};
        for (long bits : all) {
            x.write(bits, false);
            x.back();
            Check.fails("read of " + bits, () -> x.read(false), IllegalArgumentException.class);
        }
    }

    private static void roundTrips() {
        for (long bits = 0; bits < Exact.infinity(false); bits += 0x7FEFFFFFFFFFFL) {
            roundTrip(bits, false);
        }
        for (long bits = 0; bits < Exact.infinity(true); bits += 0xFFFFDL) {
            roundTrip(bits, true);
        }
        for (boolean single : new boolean[] {false, true}) {
            roundTrip(1, single);
            roundTrip(Exact.infinity(single) - 1, single);
        }
    }

    private static void roundTrip(long bits, boolean single) {
        RealText x = new RealText();
        int length = x.write(bits, single);
        Check.same("back() of " + bits, x.back(), length);
        Check.answers("read of " + bits, () -> x.read(single), bits);
    }
}
