/** The Terms: which exception a call throws, and that one that throws changes nothing else. */
public final class RefusedCallTest {
    private static final int TEXT_LIMIT = 1200;
    private static final String[] TEXTS = {"", "1.5", "x", "1e999", "0".repeat(TEXT_LIMIT - 3),
        "0".repeat(TEXT_LIMIT - 1) + "7"};
    private static final long[] WRITTEN = {0x3FF8000000000000L, 0x8010000000000000L,
        0xFFF0000000000000L};

    public static void main(String[] args) {
        everyStateAndCall();
        readThrowsButIsCounted();
        anIllegalArgumentComesFirst();
        aRefusedObjectGoesOn();
        Check.end();
    }

    /** An object with a text, a number written and partly taken, and counts of its own. */
    private static RealText made(String text, long bits, int takes) {
        RealText x = new RealText();
        for (String one : new String[] {"1", "2", "3", "x", "y", "1e400"}) {
            Check.put(x, one);
            Check.outcome(() -> x.read(false));
        }
        Check.put(x, text);
        x.write(bits, false);
        for (int i = 0; i < takes; i++) {
            x.take();
        }
        return x;
    }

    /** All that calls can tell of an object; it is used up then. */
    private static String told(RealText x) {
        StringBuilder all = new StringBuilder();
        for (int what = 0; what <= 4; what++) {
            all.append(x.count(what)).append(' ');
        }
        all.append(Check.takeAll(x)).append(' ').append(Check.outcome(() -> x.read(false)));
        return all.toString();
    }

    private static void everyStateAndCall() {
        for (String text : TEXTS) {
            for (long bits : WRITTEN) {
                for (int takes = 0; takes <= 3; takes++) {
                    refusedIn(text, bits, takes);
                }
            }
        }
    }

    private static void refusedIn(String text, long bits, int takes) {
        String due = told(made(text, bits, takes));
        for (long w : new long[] {1, 31, 127, 255, -1, 0x3131313131313180L, 0x0A31313131313131L}) {
            RealText x = made(text, bits, takes);
            Check.fails("text(" + w + ")", () -> x.text(w), IllegalArgumentException.class);
            Check.same("behind text(" + w + ")", told(x), due);
        }
        for (int what : new int[] {-1, 5, Integer.MAX_VALUE, Integer.MIN_VALUE}) {
            RealText x = made(text, bits, takes);
            Check.fails("count(" + what + ")", () -> x.count(what),
                    IllegalArgumentException.class);
            Check.same("behind count(" + what + ")", told(x), due);
        }
        if (text.length() > TEXT_LIMIT - 8) {
            RealText x = made(text, bits, takes);
            Check.fails("text of eight", () -> x.text(Check.word("11111111")),
                    IllegalStateException.class);
            Check.same("behind text of eight", told(x), due);
        }
    }

    private static void readThrowsButIsCounted() {
        for (long bits : WRITTEN) {
            for (int takes = 0; takes <= 3; takes++) {
                String rest = Exact.written(bits, false);
                rest = rest.substring(Math.min(8 * takes, rest.length()));
                readThrows(made("1e", bits, takes), Exact.NO_LITERAL, rest, 3, 3, 1);
                readThrows(made("", bits, takes), Exact.NO_LITERAL, rest, 3, 3, 1);
                readThrows(made("1e309", bits, takes), Exact.OUT_OF_RANGE, rest, 3, 2, 2);
                readThrows(made("1e-324", bits, takes), Exact.OUT_OF_RANGE, rest, 3, 2, 2);
            }
        }
    }

    private static void readThrows(RealText x, String due, String rest, int... counts) {
        Check.same("read", Check.outcome(() -> x.read(false)), due);
        Check.counts("behind read", x, 0, rest.length(), counts[0], counts[1], counts[2]);
        Check.same("written behind read", Check.takeAll(x), rest);
    }

    private static void anIllegalArgumentComesFirst() {
        RealText full = Check.withText("0".repeat(TEXT_LIMIT));
        Check.fails("a bad byte, and no room", () -> full.text(0x3131313131313107L),
                IllegalArgumentException.class);
        Check.fails("no room alone", () -> full.text(0x3131313131313131L),
                IllegalStateException.class);
        // Too great, or too small, but for what makes it no literal.
        for (String text : new String[] {"1e999x", "1e999_", "-1e999", "0x1p9999f", "1e-999 "}) {
            Check.same("read of " + text, Check.readOutcome(text, false), Exact.NO_LITERAL);
            Check.same("read of " + text, Check.readOutcome(text, true), Exact.NO_LITERAL);
        }
    }

    private static void aRefusedObjectGoesOn() {
        RealText x = new RealText();
        for (int i = 0; i < 50; i++) {
            Check.fails("text", () -> x.text(200), IllegalArgumentException.class);
            Check.fails("read", () -> x.read(true), IllegalArgumentException.class);
            Check.fails("count", () -> x.count(5), IllegalArgumentException.class);
            Check.answers("text", () -> x.text(Check.word("1e40")), 4);
            Check.fails("read", () -> x.read(true), ArithmeticException.class);
        }
        Check.counts("at the end", x, 0, 0, 0, 50, 50);
    }
}
