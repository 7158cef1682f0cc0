/** Promise 7: each of the five counts, and no others. */
public final class CountTest {
    private static final int TEXT_LIMIT = 1200;

    public static void main(String[] args) {
        charactersOfTheText();
        charactersOfWhatIsWritten();
        readAsANumber();
        noLiterals();
        tooGreatOrTooSmall();
        eachReadIsCountedOnce();
        others();
        countingChangesNothing();
        Check.end();
    }

    private static void charactersOfTheText() {
        RealText x = new RealText();
        for (int length = 1; length <= 100; length++) {
            x.text(Check.word("7"));
            Check.same("count(0)", x.count(0), length);
        }
        Check.outcome(() -> x.read(false));
        Check.same("count(0) behind read", x.count(0), 0);
        Check.same("count(0) of a full text",
                Check.withText("1".repeat(TEXT_LIMIT)).count(0), TEXT_LIMIT);
    }

    private static void charactersOfWhatIsWritten() {
        RealText x = Check.withText("123456789");
        x.write(0xFFF0000000000000L, false);
        Check.counts("behind write", x, 9, 9, 0, 0, 0);
        x.take();
        Check.counts("behind take", x, 9, 1, 0, 0, 0);
        x.back();
        Check.counts("behind back", x, 1, 0, 0, 0, 0);
        x.write(0x7FC00000L, true);
        Check.counts("behind write", x, 1, 3, 0, 0, 0);
        x.write(Check.bits(-Double.MIN_NORMAL), false);
        Check.counts("behind write", x, 1, 24, 0, 0, 0);
    }

    private static void reads(RealText x, String letters, boolean single, int... due) {
        Check.put(x, letters);
        Check.outcome(() -> x.read(single));
        Check.counts("behind " + letters, x, 0, 0, due[0], due[1], due[2]);
    }

    private static void readAsANumber() {
        RealText x = new RealText();
        reads(x, "1", false, 1, 0, 0);
        reads(x, "1", true, 2, 0, 0);
        reads(x, "0", false, 3, 0, 0);
        reads(x, "0e999999999999", true, 4, 0, 0);
        reads(x, "0x1p-1074", false, 5, 0, 0);
        reads(x, "1e39", false, 6, 0, 0);
        reads(x, "1e-45", true, 7, 0, 0);
    }

    private static void noLiterals() {
        RealText x = new RealText();
        reads(x, "1x", false, 0, 1, 0);
        reads(x, "1x", true, 0, 2, 0);
        reads(x, "", true, 0, 3, 0);
        reads(x, "", false, 0, 4, 0);
        reads(x, "-1", false, 0, 5, 0);
        reads(x, "1e-99999999999_", false, 0, 6, 0);
        reads(x, "1e999f", true, 0, 7, 0);
    }

    private static void tooGreatOrTooSmall() {
        RealText x = new RealText();
        reads(x, "1e39", true, 0, 0, 1);
        reads(x, "1e-46", true, 0, 0, 2);
        reads(x, "1e309", false, 0, 0, 3);
        reads(x, "1e-324", false, 0, 0, 4);
        reads(x, "0x1p99999999999", false, 0, 0, 5);
        reads(x, "0x1p-99999999999", true, 0, 0, 6);
    }

    private static void eachReadIsCountedOnce() {
        RealText x = new RealText();
        for (int i = 1; i <= 30; i++) {
            reads(x, "1", false, i, i - 1, i - 1);
            reads(x, "x", true, i, i, i - 1);
            reads(x, i % 2 == 0 ? "1e999" : "1e-999", false, i, i, i);
        }
    }

    private static void others() {
        int[] all = {-1, 5, 6, Integer.MIN_VALUE, Integer.MAX_VALUE, 256, -2, 1 << 16, 65537,
            Integer.MIN_VALUE + 1};
        for (int what : all) {
            Check.fails("count(" + what + ")", () -> new RealText().count(what),
                    IllegalArgumentException.class);
        }
        for (int what = 5; what < 300; what++) {
            int other = what;
            Check.fails("count(" + what + ")", () -> new RealText().count(other),
                    IllegalArgumentException.class);
            Check.fails("count(-" + what + ")", () -> new RealText().count(-other),
                    IllegalArgumentException.class);
        }
    }

    private static void countingChangesNothing() {
        RealText x = Check.withText("25");
        x.write(Check.bits(1.5), false);
        for (int i = 0; i < 5; i++) {
            Check.counts("again", x, 2, 3, 0, 0, 0);
        }
        Check.answers("read", () -> x.read(false), Check.bits(25.0));
        Check.same("written", Check.takeAll(x), "1.5");
    }
}
