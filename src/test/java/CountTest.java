/** Promise 7: the counts, and no others. */
public final class CountTest {
    public static void main(String[] args) {
        int[] others = {-1, 5, 6, Integer.MIN_VALUE, Integer.MAX_VALUE, 256, -2};
        for (int what : others) {
            Check.fails("count(" + what + ")", () -> new RealText().count(what),
                    IllegalArgumentException.class);
        }
        everyCount();
        lengths();
        Check.end();
    }

    private static void counts(RealText x, int... due) {
        for (int what = 0; what < due.length; what++) {
            Check.same("count(" + what + ")", x.count(what), due[what]);
        }
    }

    private static void reads(RealText x, String letters, boolean single) {
        Check.put(x, letters);
        Check.outcome(() -> x.read(single));
    }

    private static void everyCount() {
        RealText x = new RealText();
        reads(x, "1", false);
        counts(x, 0, 0, 1, 0, 0);
        reads(x, "0e999999999999", true);
        counts(x, 0, 0, 2, 0, 0);
        reads(x, "1x", false);
        counts(x, 0, 0, 2, 1, 0);
        reads(x, "", true);
        counts(x, 0, 0, 2, 2, 0);
        reads(x, "1e39", true);
        counts(x, 0, 0, 2, 2, 1);
        reads(x, "1e39", false);
        counts(x, 0, 0, 3, 2, 1);
        reads(x, "1e-400", false);
        counts(x, 0, 0, 3, 2, 2);
        reads(x, "0x1p99999999999", false);
        counts(x, 0, 0, 3, 2, 3);
        reads(x, "1e-99999999999_", false);
        counts(x, 0, 0, 3, 3, 3);
        Check.outcome(() -> x.count(9));
        Check.outcome(() -> x.text(-1));
        counts(x, 0, 0, 3, 3, 3);
    }

    private static void lengths() {
        RealText x = new RealText();
        Check.put(x, "123456789");
        x.write(0xFFF0000000000000L, false);
        counts(x, 9, 9, 0, 0, 0);
        x.take();
        counts(x, 9, 1, 0, 0, 0);
        x.back();
        counts(x, 1, 0, 0, 0, 0);
        x.write(0x7FC00000L, true);
        counts(x, 1, 3, 0, 0, 0);
    }
}
