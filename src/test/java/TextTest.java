/** Promise 2: characters come to the text, or nothing changes. */
public final class TextTest {
    private static final int TEXT_LIMIT = 1200;

    public static void main(String[] args) {
        theHighestByteComesFirst();
        whatIsThereStaysBefore();
        zerosAreLeftOut();
        zerosInEveryPlace();
        everyByteInEveryPlace();
        aBadByteAmongGoodOnes();
        theTextIsFull();
        everyWayToTheLimit();
        aFullTextIsReadWhole();
        theFirstOfTwoExceptions();
        nothingChangesAtABadByte();
        nothingChangesBeyondTheLimit();
        Check.end();
    }

    private static void theHighestByteComesFirst() {
        RealText x = new RealText();
        Check.same("text", x.text(0x3132333435363738L), 8);
        Check.answers("read", () -> x.read(false), Check.bits(12345678.0));
    }

    private static void whatIsThereStaysBefore() {
        RealText x = new RealText();
        Check.same("text", x.text(Check.word("12345678")), 8);
        Check.same("text", x.text(Check.word("9.5")), 11);
        Check.answers("read", () -> x.read(false), Check.bits(123456789.5));
        Check.same("text behind read", x.text(Check.word("7")), 1);
        Check.answers("read again", () -> x.read(false), Check.bits(7.0));
    }

    private static void zerosAreLeftOut() {
        RealText x = new RealText();
        Check.same("text(0)", x.text(0), 0);
        Check.same("zeros between", x.text(0x3100320000330000L), 3);
        Check.same("text(0) again", x.text(0), 3);
        Check.same("zeros behind", x.text(0x2E35000000000000L), 5);
        Check.answers("read", () -> x.read(false), Check.bits(123.5));
    }

    /** Every choice of the eight bytes that are zeros. */
    private static void zerosInEveryPlace() {
        for (int choice = 0; choice < 256; choice++) {
            long w = 0;
            StringBuilder due = new StringBuilder();
            for (int place = 7; place >= 0; place--) {
                boolean isThere = (choice >> place & 1) != 0;
                w = w << 8 | (isThere ? '1' + place : 0);
                if (isThere) {
                    due.append((char) ('1' + place));
                }
            }
            RealText x = new RealText();
            Check.same("text(" + w + ")", x.text(w), due.length());
            Check.same("read of " + due, Check.outcome(() -> x.read(false)),
                    Exact.read(due.toString(), false));
        }
    }

    private static boolean isCharacter(long one) {
        return one >= 32 && one <= 126;
    }

    private static void everyByteInEveryPlace() {
        for (int shift = 0; shift < 64; shift += 8) {
            for (long one = 0; one < 256; one++) {
                RealText x = new RealText();
                long w = one << shift;
                String what = "text(" + w + ")";
                if (one == 0 || isCharacter(one)) {
                    Check.answers(what, () -> x.text(w), one == 0 ? 0 : 1);
                } else {
                    Check.fails(what, () -> x.text(w), IllegalArgumentException.class);
                    Check.same("count(0)", x.count(0), 0);
                }
            }
        }
    }

    private static void aBadByteAmongGoodOnes() {
        long ones = Check.word("11111111");
        for (int shift = 0; shift < 64; shift += 8) {
            for (long one = 1; one < 256; one++) {
                RealText x = Check.withText("5");
                long w = ones & ~(0xFFL << shift) | one << shift;
                String what = "text(" + w + ")";
                if (isCharacter(one)) {
                    Check.answers(what, () -> x.text(w), 9);
                } else {
                    Check.fails(what, () -> x.text(w), IllegalArgumentException.class);
                    Check.answers("read", () -> x.read(false), Check.bits(5.0));
                }
            }
        }
    }

    private static RealText filled(int characters) {
        return Check.withText("0".repeat(characters));
    }

    private static void theTextIsFull() {
        RealText x = filled(TEXT_LIMIT - 8);
        Check.answers("the last word", () -> x.text(Check.word("00000001")), TEXT_LIMIT);
        Check.fails("1201", () -> x.text(Check.word("1")), IllegalStateException.class);
        Check.fails("1208", () -> x.text(Check.word("11111111")), IllegalStateException.class);
        Check.answers("none more", () -> x.text(0), TEXT_LIMIT);
        Check.answers("read", () -> x.read(false), Check.bits(1.0));
        Check.answers("empty again", () -> x.text(Check.word("00000001")), 8);
    }

    /** So many characters less than the limit, and so many more. */
    private static void everyWayToTheLimit() {
        for (int free = 0; free <= 9; free++) {
            for (int more = 0; more <= 8; more++) {
                RealText x = filled(TEXT_LIMIT - free);
                long w = Check.word("1".repeat(more));
                String what = more + " more where " + free + " are free";
                if (more <= free) {
                    Check.answers(what, () -> x.text(w), TEXT_LIMIT - free + more);
                } else {
                    Check.fails(what, () -> x.text(w), IllegalStateException.class);
                    Check.same("count(0)", x.count(0), TEXT_LIMIT - free);
                }
            }
        }
        RealText x = filled(TEXT_LIMIT - 2);
        Check.answers("zeros do not count", () -> x.text(0x3100000032000000L), TEXT_LIMIT);
        Check.answers("read", () -> x.read(false), Check.bits(12.0));
    }

    private static void aFullTextIsReadWhole() {
        String text = "1." + "0".repeat(TEXT_LIMIT - 5) + "e30";
        Check.same("read of 1200", Check.readOutcome(text, false),
                Long.toString(Check.bits(1e30)));
        Check.same("read of 1199", Check.readOutcome(text.substring(0, TEXT_LIMIT - 1), false),
                Long.toString(Check.bits(1e3)));
    }

    private static void theFirstOfTwoExceptions() {
        RealText x = filled(TEXT_LIMIT);
        Check.fails("both fit", () -> x.text(127), IllegalArgumentException.class);
        Check.fails("both fit", () -> x.text(-1), IllegalArgumentException.class);
        Check.fails("both fit", () -> x.text(0x3100000000000001L), IllegalArgumentException.class);
        Check.fails("one fits", () -> x.text(126), IllegalStateException.class);
        Check.same("count(0)", x.count(0), TEXT_LIMIT);
    }

    private static void nothingChangesAtABadByte() {
        RealText x = Check.withText("1.5");
        x.write(Check.bits(2.5), false);
        Check.fails("a bad last byte", () -> x.text(0x3131313131313109L),
                IllegalArgumentException.class);
        Check.fails("a bad first byte", () -> x.text(0xFF31313131313131L),
                IllegalArgumentException.class);
        Check.counts("behind bad bytes", x, 3, 3, 0, 0, 0);
        Check.answers("read", () -> x.read(false), Check.bits(1.5));
        Check.same("written", Check.takeAll(x), "2.5");
    }

    private static void nothingChangesBeyondTheLimit() {
        RealText x = Check.withText("0".repeat(TEXT_LIMIT - 4) + "8");
        x.write(Check.bits(2.5), false);
        Check.fails("four where three are free", () -> x.text(Check.word("1111")),
                IllegalStateException.class);
        Check.counts("beyond the limit", x, TEXT_LIMIT - 3, 3, 0, 0, 0);
        Check.answers("three", () -> x.text(Check.word(".25")), TEXT_LIMIT);
        Check.fails("one more", () -> x.text(Check.word("5")), IllegalStateException.class);
        Check.counts("beyond the limit", x, TEXT_LIMIT, 3, 0, 0, 0);
        Check.answers("read", () -> x.read(false), Check.bits(8.25));
        Check.same("written", Check.takeAll(x), "2.5");
    }
}
