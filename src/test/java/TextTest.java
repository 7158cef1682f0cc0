/** Promise 2: characters come to the text, or nothing changes. */
public final class TextTest {
    public static void main(String[] args) {
        order();
        zerosAreLeftOut();
        everyByteInEveryPlace();
        limit();
        firstOfTwoExceptions();
        nothingChangesWhenItThrows();
        Check.end();
    }

    private static void order() {
        RealText x = new RealText();
        Check.same("text", x.text(Check.word("12345678")), 8);
        Check.same("text", x.text(Check.word("9.5")), 11);
        Check.answers("read", () -> x.read(false), Double.doubleToRawLongBits(123456789.5));
        Check.same("text behind read", x.text(Check.word("7")), 1);
    }

    private static void zerosAreLeftOut() {
        RealText x = new RealText();
        Check.same("text(0)", x.text(0), 0);
        Check.same("zeros between", x.text(0x3100320000330000L), 3);
        Check.same("text(0) again", x.text(0), 3);
        Check.same("zeros behind", x.text(0x2E35000000000000L), 5);
        Check.answers("read", () -> x.read(false), Double.doubleToRawLongBits(123.5));
    }

    private static void everyByteInEveryPlace() {
        for (int shift = 0; shift < 64; shift += 8) {
            for (long one = 0; one < 256; one++) {
                RealText x = new RealText();
                long w = one << shift;
                String what = "text(" + w + ")";
                if (one == 0 || one >= 32 && one <= 126) {
                    Check.answers(what, () -> x.text(w), one == 0 ? 0 : 1);
                } else {
                    Check.fails(what, () -> x.text(w), IllegalArgumentException.class);
                    Check.same("count(0)", x.count(0), 0);
                }
            }
        }
    }

    private static RealText filled(int words) {
        RealText x = new RealText();
        for (int i = 0; i < words; i++) {
            x.text(Check.word("00000000"));
        }
        return x;
    }

    private static void limit() {
        RealText x = filled(149);
        Check.answers("the last word", () -> x.text(Check.word("00000001")), 1200);
        Check.fails("1201", () -> x.text(Check.word("1")), IllegalStateException.class);
        Check.answers("no more", () -> x.text(0), 1200);
        Check.answers("read", () -> x.read(false), Double.doubleToRawLongBits(1));
        Check.answers("empty again", () -> x.text(Check.word("00000001")), 8);

        RealText y = filled(149);
        y.text(Check.word("00005"));
        Check.fails("1201 in part", () -> y.text(Check.word("0000")),
                IllegalStateException.class);
        Check.same("count(0)", y.count(0), 1197);
        Check.answers("zeros do not count", () -> y.text(0x2E30003100000000L), 1200);
        Check.answers("read", () -> y.read(false), Double.doubleToRawLongBits(5.01));
    }

    private static void firstOfTwoExceptions() {
        RealText x = filled(150);
        Check.fails("both fit", () -> x.text(127), IllegalArgumentException.class);
        Check.fails("both fit", () -> x.text(-1), IllegalArgumentException.class);
        Check.fails("one fits", () -> x.text(126), IllegalStateException.class);
        Check.same("count(0)", x.count(0), 1200);
    }

    private static void nothingChangesWhenItThrows() {
        RealText x = new RealText();
        x.text(Check.word("1.5"));
        x.write(Double.doubleToRawLongBits(2.5), false);
        Check.fails("a bad last byte", () -> x.text(0x3131313131313109L),
                IllegalArgumentException.class);
        Check.fails("a bad first byte", () -> x.text(0xFF31313131313131L),
                IllegalArgumentException.class);
        for (int what = 2; what <= 4; what++) {
            Check.same("count(" + what + ")", x.count(what), 0);
        }
        Check.answers("read", () -> x.read(false), Double.doubleToRawLongBits(1.5));
        Check.same("written", Check.takeAll(x), "2.5");
    }
}
