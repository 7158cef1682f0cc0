import java.math.BigDecimal;

/** What the tests share: comparing answers, talking to a RealText in Strings, exact values. */
final class Check {
    /** A call whose answer or exception is wanted. */
    interface Call {
        long answer();
    }

    private static int wrong = 0;

    private Check() {
    }

    static void same(String what, Object got, Object due) {
        if (!got.equals(due)) {
            wrong++;
            System.out.println(what + " answered " + got + ", due is " + due);
        }
    }

    static void answers(String what, Call call, long due) {
        same(what, outcome(call), Long.toString(due));
    }

    static void fails(String what, Call call, Class<? extends RuntimeException> due) {
        same(what, outcome(call), "throws." + due.getSimpleName());
    }

    static String outcome(Call call) {
        try {
            return Long.toString(call.answer());
        } catch (RuntimeException e) {
            return "throws." + e.getClass().getSimpleName();
        }
    }

    static void end() {
        if (wrong != 0) {
            System.out.println(wrong + " answers are not as due");
            System.exit(1);
        }
    }

    /** Up to eight characters as text() takes them. */
    static long word(String letters) {
        long w = 0;
        for (int i = 0; i < letters.length(); i++) {
            w = w << 8 | letters.charAt(i);
        }
        return w;
    }

    static void put(RealText x, String letters) {
        for (int i = 0; i < letters.length(); i += 8) {
            x.text(word(letters.substring(i, Math.min(i + 8, letters.length()))));
        }
    }

    static String readOutcome(String letters, boolean single) {
        RealText x = new RealText();
        put(x, letters);
        return outcome(() -> x.read(single));
    }

    static String takeAll(RealText x) {
        StringBuilder all = new StringBuilder();
        for (long w = x.take(); w != 0; w = x.take()) {
            for (int shift = 56; shift >= 0; shift -= 8) {
                char letter = (char) (w >>> shift & 0xFF);
                if (letter != 0) {
                    all.append(letter);
                }
            }
        }
        return all.toString();
    }

    static String writtenText(long bits, boolean single) {
        RealText x = new RealText();
        int length = x.write(bits, single);
        String all = takeAll(x);
        same("the length of " + all, length, all.length());
        return all;
    }

    static long infinity(boolean single) {
        return single ? 0x7F800000L : 0x7FF0000000000000L;
    }

    /** The exact value of bits without a sign; infinity counts as the number above the greatest. */
    static BigDecimal exact(long bits, boolean single) {
        if (bits == infinity(single)) {
            return new BigDecimal(2).pow(single ? 128 : 1024);
        }
        return single ? new BigDecimal((double) Float.intBitsToFloat((int) bits))
                : new BigDecimal(Double.longBitsToDouble(bits));
    }

    private static BigDecimal middle(long bits, boolean single) {
        BigDecimal sum = exact(bits, single).add(exact(bits + 1, single));
        return sum.divide(new BigDecimal(2));
    }

    /** The middle of a number and the one below it. */
    static BigDecimal middleBelow(long bits, boolean single) {
        return middle(bits - 1, single);
    }

    /** The middle of a number and the one above it. */
    static BigDecimal middleAbove(long bits, boolean single) {
        return middle(bits, single);
    }

    /** Whether a value is read as the number with these bits, neither 0 nor infinity. */
    static boolean isReadAs(BigDecimal value, long bits, boolean single) {
        int below = value.compareTo(middleBelow(bits, single));
        int above = value.compareTo(middleAbove(bits, single));
        boolean isEven = (bits & 1) == 0;
        return below > 0 && above < 0 || isEven && (below == 0 || above == 0);
    }
}
