import java.util.Random;

/** All promises at once: runs of calls on one object, up to 512, against a plain model of it. */
public final class RunsTest {
    /** The document as it stands, with Strings and exact arithmetic. */
    private static final class Model {
        private static final int TEXT_LIMIT = 1200;

        private String theText = "";
        private String written = "";
        private final int[] counts = new int[3];

        String text(long w) {
            StringBuilder more = new StringBuilder();
            for (int shift = 56; shift >= 0; shift -= 8) {
                char one = (char) (w >>> shift & 0xFF);
                if (one != 0 && (one < 32 || one > 126)) {
                    return "throws.IllegalArgumentException";
                }
                if (one != 0) {
                    more.append(one);
                }
            }
            if (theText.length() + more.length() > TEXT_LIMIT) {
                return "throws.IllegalStateException";
            }
            theText += more;
            return Integer.toString(theText.length());
        }

        String read(boolean single) {
            String outcome = Exact.read(theText, single);
            theText = "";
            counts[outcome.equals(Exact.NO_LITERAL) ? 1
                    : outcome.equals(Exact.OUT_OF_RANGE) ? 2 : 0]++;
            return outcome;
        }

        String write(long bits, boolean single) {
            written = Exact.written(bits, single);
            return Integer.toString(written.length());
        }

        String take() {
            int taken = Math.min(8, written.length());
            long w = Check.word(written.substring(0, taken));
            written = written.substring(taken);
            return Long.toString(w);
        }

        String back() {
            theText = written;
            written = "";
            return Integer.toString(theText.length());
        }

        String count(int what) {
            if (what < 0 || what > 4) {
                return "throws.IllegalArgumentException";
            }
            return Integer.toString(what == 0 ? theText.length() : what == 1 ? written.length()
                    : counts[what - 2]);
        }
    }

    private static final int CALLS = 512;
    /** The seed is fixed: each run of the test makes the same calls. */
    private static final Random CHOICE = new Random(151126);
    private static final int ROUNDS = Integer.getInteger("rounds", 1);

    private final RealText x;
    private final Model model;
    private int calls;

    public static void main(String[] args) {
        everyShortRun();
        fullTextsInOneRun();
        for (int i = 0; i < 60 * ROUNDS; i++) {
            new RunsTest().run();
        }
        Check.end();
    }

    private RunsTest() {
        x = new RealText();
        model = new Model();
    }

    /** All runs of four calls out of twelve: what any call leaves to any other behind it. */
    private static void everyShortRun() {
        for (int choices = 0; choices < 12 * 12 * 12 * 12; choices++) {
            RunsTest run = new RunsTest();
            for (int left = choices, i = 0; i < 4; i++, left /= 12) {
                run.callOf(left % 12);
            }
            run.tellAll();
        }
    }

    /** As many full texts as 512 calls can bring: none leaves anything to the next. */
    private static void fullTextsInOneRun() {
        String middle = Exact.middleAbove(4503599627370495L, false).toPlainString();
        String below = middle.substring(0, middle.length() - 1);
        String[] all = {filled("", "9", "e-890"), filled(middle, "0", ""), filled(middle, "0", "1"),
            filled(below + "4", "9", ""), filled("0x1", "0", "1p-4764"), filled("1", "_", "1"),
            filled("0x.", "0", "1p-9999"), filled("0.", "0", ""), filled(".", "9", "x")};
        for (int i = 0; i < all.length; i++) {
            RunsTest run = new RunsTest();
            for (int j = 0; j < 3; j++) {
                run.putText(all[(i + j) % all.length]);
                run.read(j == 1);
            }
            run.tellAll();
        }
    }

    private static String filled(String start, String middle, String end) {
        return start + middle.repeat(Model.TEXT_LIMIT - start.length() - end.length()) + end;
    }

    private void callOf(int which) {
        switch (which) {
            case 0 -> putText("12");
            case 1 -> putText("e-4_5");
            case 2 -> putText("12.e39");
            case 3 -> text(0);
            case 4 -> text(0x3131000031313180L);
            case 5 -> read(true);
            case 6 -> read(false);
            case 7 -> write(0x8010000000000000L, false);
            case 8 -> write(0x3FC00000L, true);
            case 9 -> write(0x7FF0000000000000L, false);
            case 10 -> take();
            default -> back();
        }
    }

    private void tellAll() {
        for (int what = -1; what <= 5; what++) {
            count(what);
        }
        take();
        read(false);
        back();
        read(true);
        for (int what = 0; what <= 4; what++) {
            count(what);
        }
    }

    private void run() {
        boolean isLong = CHOICE.nextInt(4) == 0;
        while (calls < CALLS) {
            step(isLong);
        }
    }

    private void step(boolean isLong) {
        switch (CHOICE.nextInt(10)) {
            case 0:
            case 1:
            case 2:
                putText(isLong ? someLongText() : someText());
                break;
            case 3:
                text(CHOICE.nextBoolean() ? CHOICE.nextLong() : Check.word("_") << 8);
                break;
            case 4:
            case 5:
                read(CHOICE.nextBoolean());
                break;
            case 6:
            case 7:
                write(someBits(), CHOICE.nextBoolean());
                if (CHOICE.nextBoolean()) {
                    back();
                }
                break;
            case 8:
                take();
                break;
            default:
                count(CHOICE.nextInt(8) == 0 ? CHOICE.nextInt() : CHOICE.nextInt(7) - 1);
        }
    }

    private interface Due {
        String outcome();
    }

    private void compare(String what, Check.Call call, Due due) {
        if (calls < CALLS) {
            calls++;
            Check.same("call " + calls + ", " + what + ",", Check.outcome(call), due.outcome());
        }
    }

    private void text(long w) {
        compare("text(" + w + ")", () -> x.text(w), () -> model.text(w));
    }

    private void read(boolean single) {
        compare("read(" + single + ") of " + model.theText, () -> x.read(single),
                () -> model.read(single));
    }

    private void write(long bits, boolean single) {
        compare("write(" + bits + ", " + single + ")", () -> x.write(bits, single),
                () -> model.write(bits, single));
    }

    private void take() {
        compare("take()", () -> x.take(), () -> model.take());
    }

    private void back() {
        compare("back()", () -> x.back(), () -> model.back());
    }

    private void count(int what) {
        compare("count(" + what + ")", () -> x.count(what), () -> model.count(what));
    }

    private void putText(String letters) {
        for (int i = 0; i < letters.length(); i += 8) {
            text(Check.word(letters.substring(i, Math.min(i + 8, letters.length()))));
        }
    }

    private static String someText() {
        switch (CHOICE.nextInt(6)) {
            case 0:
                return Long.toString(CHOICE.nextLong() >>> CHOICE.nextInt(64));
            case 1:
                return CHOICE.nextInt(1000) + "." + CHOICE.nextInt(100000) + "e"
                        + (CHOICE.nextInt(700) - 350);
            case 2:
                return "0x" + Integer.toHexString(CHOICE.nextInt()) + ".8p"
                        + (CHOICE.nextInt(2400) - 1200);
            case 3:
                return Exact.middleAbove((CHOICE.nextLong() >>> 1) % Exact.infinity(true), true)
                        .toString();
            case 4:
                return String.valueOf("0.e_xp+- ".charAt(CHOICE.nextInt(9)));
            default:
                return "0" + ".".repeat(CHOICE.nextInt(2)) + "0".repeat(CHOICE.nextInt(20))
                        + CHOICE.nextInt(10);
        }
    }

    private static String someLongText() {
        int length = CHOICE.nextInt(900);
        switch (CHOICE.nextInt(4)) {
            case 0:
                return Exact.middleAbove((CHOICE.nextLong() >>> 1) % Exact.infinity(false), false)
                        .toString();
            case 1:
                return "7".repeat(length) + ".5e-" + length;
            case 2:
                return "." + "0".repeat(length) + "3e" + length;
            default:
                return "0x." + "0".repeat(length) + "bp" + 4 * length;
        }
    }

    private static long someBits() {
        switch (CHOICE.nextInt(4)) {
            case 0:
                return CHOICE.nextLong();
            case 1:
                return Check.bits(CHOICE.nextInt(100000) / 1000.0);
            case 2:
                return Check.bits(CHOICE.nextInt(100000) / 1000f);
            default:
                return CHOICE.nextLong() << CHOICE.nextInt(64);
        }
    }
}
