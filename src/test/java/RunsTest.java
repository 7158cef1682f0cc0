import java.util.Random;

/** All promises at once: runs of 512 calls on one object, against a plain model of it. */
public final class RunsTest {
    /** The document as it stands, with Strings and exact arithmetic. */
    private static final class Model {
        private static final int TEXT_LIMIT = 1200;

        private String theText = "";
        private String written = "";
        private final int[] counts = new int[3];

        String text(long w) {
            StringBuilder more = new StringBuilder();
            for (int shift = 56; shift >= 0; shift -= 8) {
                char one = (char) (w >>> shift & 0xFF);
                if (one != 0 && (one < 32 || one > 126)) {
                    return "throws.IllegalArgumentException";
                }
                if (one != 0) {
                    more.append(one);
                }
            }
            if (theText.length() + more.length() > TEXT_LIMIT) {
                return "throws.IllegalStateException";
            }
            theText += more;
            return Integer.toString(theText.length());
        }

        String read(boolean single) {
            String outcome = Exact.read(theText, single);
            theText = "";
            counts[outcome.equals(Exact.NO_LITERAL) ? 1
                    : outcome.equals(Exact.OUT_OF_RANGE) ? 2 : 0]++;
            return outcome;
        }

        String write(long bits, boolean single) {
            written = Exact.written(bits, single);
            return Integer.toString(written.length());
        }

        String take() {
            int taken = Math.min(8, written.length());
            long w = Check.word(written.substring(0, taken));
            written = written.substring(taken);
            return Long.toString(w);
        }

        String back() {
            theText = written;
            written = "";
            return Integer.toString(theText.length());
        }

        String count(int what) {
            if (what < 0 || what > 4) {
                return "throws.IllegalArgumentException";
            }
            return Integer.toString(what == 0 ? theText.length() : what == 1 ? written.length()
                    : counts[what - 2]);
        }
    }

    private static final int CALLS = 512;
    /** The seed is fixed: each run of the test makes the same calls. */
    private static final Random CHOICE = new Random(151126);
    private static final int ROUNDS = Integer.getInteger("rounds", 1);

    private RealText x;
    private Model model;
    private int calls;

    public static void main(String[] args) {
        for (int i = 0; i < 60 * ROUNDS; i++) {
            new RunsTest().run();
        }
        Check.end();
    }

    private void run() {
        x = new RealText();
        model = new Model();
        calls = 0;
        boolean isLong = CHOICE.nextInt(4) == 0;
        while (calls < CALLS) {
            step(isLong);
        }
    }

    private void step(boolean isLong) {
        switch (CHOICE.nextInt(10)) {
            case 0:
            case 1:
            case 2:
                putText(isLong ? someLongText() : someText());
                break;
            case 3:
                text(CHOICE.nextBoolean() ? CHOICE.nextLong() : Check.word("_") << 8);
                break;
            case 4:
            case 5:
                read();
                break;
            case 6:
            case 7:
                write();
                break;
            case 8:
                compare("take()", () -> x.take(), () -> model.take());
                break;
            default:
                tell();
        }
    }

    private interface Due {
        String outcome();
    }

    private void compare(String what, Check.Call call, Due due) {
        if (calls < CALLS) {
            calls++;
            Check.same("call " + calls + ", " + what + ",", Check.outcome(call), due.outcome());
        }
    }

    private void text(long w) {
        compare("text(" + w + ")", () -> x.text(w), () -> model.text(w));
    }

    private void read() {
        boolean single = CHOICE.nextBoolean();
        compare("read(" + single + ") of " + model.theText, () -> x.read(single),
                () -> model.read(single));
    }

    private void write() {
        boolean single = CHOICE.nextBoolean();
        long bits = someBits();
        compare("write(" + bits + ", " + single + ")", () -> x.write(bits, single),
                () -> model.write(bits, single));
        if (CHOICE.nextBoolean()) {
            compare("back()", () -> x.back(), () -> model.back());
        }
    }

    private void tell() {
        int what = CHOICE.nextInt(8) == 0 ? CHOICE.nextInt() : CHOICE.nextInt(7) - 1;
        compare("count(" + what + ")", () -> x.count(what), () -> model.count(what));
    }

    private void putText(String letters) {
        for (int i = 0; i < letters.length(); i += 8) {
            text(Check.word(letters.substring(i, Math.min(i + 8, letters.length()))));
        }
    }

    private static String someText() {
        switch (CHOICE.nextInt(6)) {
            case 0:
                return Long.toString(CHOICE.nextLong() >>> CHOICE.nextInt(64));
            case 1:
                return CHOICE.nextInt(1000) + "." + CHOICE.nextInt(100000) + "e"
                        + (CHOICE.nextInt(700) - 350);
            case 2:
                return "0x" + Integer.toHexString(CHOICE.nextInt()) + ".8p"
                        + (CHOICE.nextInt(2400) - 1200);
            case 3:
                return Exact.middleAbove((CHOICE.nextLong() >>> 1) % Exact.infinity(true), true)
                        .toString();
            case 4:
                return String.valueOf("0.e_xp+- ".charAt(CHOICE.nextInt(9)));
            default:
                return "0" + ".".repeat(CHOICE.nextInt(2)) + "0".repeat(CHOICE.nextInt(20))
                        + CHOICE.nextInt(10);
        }
    }

    private static String someLongText() {
        int length = CHOICE.nextInt(900);
        switch (CHOICE.nextInt(4)) {
            case 0:
                return Exact.middleAbove((CHOICE.nextLong() >>> 1) % Exact.infinity(false), false)
                        .toString();
            case 1:
                return "7".repeat(length) + ".5e-" + length;
            case 2:
                return "." + "0".repeat(length) + "3e" + length;
            default:
                return "0x." + "0".repeat(length) + "bp" + 4 * length;
        }
    }

    private static long someBits() {
        switch (CHOICE.nextInt(4)) {
            case 0:
                return CHOICE.nextLong();
            case 1:
                return Check.bits(CHOICE.nextInt(100000) / 1000.0);
            case 2:
                return Check.bits(CHOICE.nextInt(100000) / 1000f);
            default:
                return CHOICE.nextLong() << CHOICE.nextInt(64);
        }
    }
}
