/** Promise 6: what is written becomes the text. */
public final class BackTest {
    public static void main(String[] args) {
        theTextIsReplaced();
        onlyTheRestComesBack();
        nothingWrittenMakesAnEmptyText();
        whatHasASignIsNoLiteral();
        roundTrips();
        Check.end();
    }

    private static void theTextIsReplaced() {
        RealText x = new RealText();
        Check.put(x, "99999999999");
        x.write(Double.doubleToRawLongBits(0.25), false);
        Check.same("back()", x.back(), 4);
        Check.same("count(0)", x.count(0), 4);
        Check.same("count(1)", x.count(1), 0);
        Check.same("take()", x.take(), 0L);
        Check.same("text", x.text(Check.word("5")), 5);
        Check.answers("read", () -> x.read(false), Double.doubleToRawLongBits(0.255));
        Check.same("count(2)", x.count(2), 1);
    }

    private static void onlyTheRestComesBack() {
        RealText x = new RealText();
        x.write(Double.doubleToRawLongBits(1234567.875), false);
        x.take();
        Check.same("back()", x.back(), 3);
        Check.answers("read", () -> x.read(true), Float.floatToRawIntBits(875));
    }

    private static void nothingWrittenMakesAnEmptyText() {
        RealText x = new RealText();
        Check.put(x, "12");
        Check.same("back()", x.back(), 0);
        Check.same("count(0)", x.count(0), 0);
        Check.fails("read", () -> x.read(false), IllegalArgumentException.class);
        x.write(0, false);
        Check.same("back()", x.back(), 3);
        Check.same("back() again", x.back(), 0);
        Check.fails("read", () -> x.read(false), IllegalArgumentException.class);
        Check.same("count(3)", x.count(3), 2);
    }

    private static void whatHasASignIsNoLiteral() {
        RealText x = new RealText();
        long[] all = {0x8000000000000000L, 0xBFF0000000000000L, 0x7FF0000000000000L,
            0xFFF0000000000000L, 0x7FF8000000000000L};
        for (long bits : all) {
            x.write(bits, false);
            x.back();
            Check.fails("read of " + bits, () -> x.read(false), IllegalArgumentException.class);
        }
    }

    private static void roundTrips() {
        for (long bits = 0; bits < Check.infinity(false); bits += 0x7FEFFFFFFFFFFL) {
            roundTrip(bits, false);
        }
        for (long bits = 0; bits < Check.infinity(true); bits += 0xFFFFDL) {
            roundTrip(bits, true);
        }
    }

    private static void roundTrip(long bits, boolean single) {
        RealText x = new RealText();
        int length = x.write(bits, single);
        Check.same("back() of " + bits, x.back(), length);
        Check.answers("read of " + bits, () -> x.read(single), bits);
    }
}
