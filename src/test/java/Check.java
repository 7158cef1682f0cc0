/** What the tests share: comparing answers, and talking to a RealText in Strings. */
final class Check {
    /** A call whose answer or exception is wanted. */
    interface Call {
        long answer();
    }

    private static final int BYTES_OF_WORD = 8;

    private static int wrong = 0;

    private Check() {
    }

    static void same(String what, Object got, Object due) {
        if (!got.equals(due)) {
            wrong++;
            System.out.println(what + " answered " + got + ", due is " + due);
        }
    }

    static void answers(String what, Call call, long due) {
        same(what, outcome(call), Long.toString(due));
    }

    static void fails(String what, Call call, Class<? extends RuntimeException> due) {
        same(what, outcome(call), "throws." + due.getSimpleName());
    }

    static String outcome(Call call) {
        try {
            return Long.toString(call.answer());
        } catch (RuntimeException e) {
            return "throws." + e.getClass().getSimpleName();
        }
    }

    static void end() {
        if (wrong != 0) {
            System.out.println(wrong + " answers are not as due");
            System.exit(1);
        }
    }

    /** Up to eight characters as text() takes them. */
    static long word(String letters) {
        long w = 0;
        for (int i = 0; i < letters.length(); i++) {
            w = w << 8 | letters.charAt(i);
        }
        return w;
    }

    static void put(RealText x, String letters) {
        for (int i = 0; i < letters.length(); i += BYTES_OF_WORD) {
            x.text(word(letters.substring(i, Math.min(i + BYTES_OF_WORD, letters.length()))));
        }
    }

    static RealText withText(String letters) {
        RealText x = new RealText();
        put(x, letters);
        return x;
    }

    static String readOutcome(String letters, boolean single) {
        RealText x = withText(letters);
        return outcome(() -> x.read(single));
    }

    /** Both sizes, against exact arithmetic. */
    static void readsExactly(String letters) {
        readsExactly(letters, false);
        readsExactly(letters, true);
    }

    static void readsExactly(String letters, boolean single) {
        same("read(" + single + ") of " + letters, readOutcome(letters, single),
                Exact.read(letters, single));
    }

    static String takeAll(RealText x) {
        StringBuilder all = new StringBuilder();
        // Bounded, so that a broken take fails a test and does not keep it from ending.
        for (int i = 0; i < 100; i++) {
            long w = x.take();
            for (int shift = 56; shift >= 0; shift -= 8) {
                char letter = (char) (w >>> shift & 0xFF);
                if (letter != 0) {
                    all.append(letter);
                }
            }
        }
        return all.toString();
    }

    static String writtenText(long bits, boolean single) {
        RealText x = new RealText();
        int length = x.write(bits, single);
        String all = takeAll(x);
        same("the length of " + all, length, all.length());
        return all;
    }

    static long bits(double number) {
        return Double.doubleToRawLongBits(number);
    }

    static long bits(float number) {
        return Float.floatToRawIntBits(number) & 0xFFFFFFFFL;
    }

    static void counts(String when, RealText x, int... due) {
        for (int what = 0; what < due.length; what++) {
            same("count(" + what + ") " + when, x.count(what), due[what]);
        }
    }
}
