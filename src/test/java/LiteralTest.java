import java.util.ArrayList;
import java.util.List;

/** The five forms of a LITERAL (Terms), and what is none. */
public final class LiteralTest {
    private static final int TEXT_LIMIT = 1200;
    private static final int FIRST_CHARACTER = 32;
    private static final int LAST_CHARACTER = 126;
    private static final String[] DIGITS = {"1", "07", "9_8", "2__3___4"};
    private static final String[] HEX = {"1", "0aF", "d_E", "b__9___C"};
    private static final String[] SIGNS = {"", "+", "-"};

    public static void main(String[] args) {
        digitsPointDigits();
        pointDigits();
        digitsAlone();
        hexDigits();
        hexPointHex();
        everyDigit();
        noneOfTheForms();
        everyCharacterInEveryPlace();
        everyShortText();
        nothingBeforeOrBehind();
        asLongAsTheText();
        Check.end();
    }

    /** A text that the document's forms allow: it is read, and to the due number. */
    private static void isOne(String text) {
        Check.same(text + " is a LITERAL", Exact.isLiteral(text), true);
        Check.readsExactly(text);
    }

    private static void isNone(String text) {
        Check.same("read(false) of " + text, Check.readOutcome(text, false), Exact.NO_LITERAL);
        Check.same("read(true) of " + text, Check.readOutcome(text, true), Exact.NO_LITERAL);
    }

    private static List<String> exponents(String small, String great) {
        List<String> all = new ArrayList<>();
        for (String sign : SIGNS) {
            for (String digits : DIGITS) {
                all.add(small + sign + digits);
                all.add(great + sign + digits);
            }
        }
        return all;
    }

    private static List<String> perhapsExponents() {
        List<String> all = exponents("e", "E");
        all.add("");
        return all;
    }

    private static void digitsPointDigits() {
        for (String exponent : perhapsExponents()) {
            for (String whole : DIGITS) {
                isOne(whole + "." + exponent);
                for (String part : DIGITS) {
                    isOne(whole + "." + part + exponent);
                }
            }
        }
    }

    private static void pointDigits() {
        for (String exponent : perhapsExponents()) {
            isNone("." + exponent);
            for (String part : DIGITS) {
                isOne("." + part + exponent);
            }
        }
    }

    private static void digitsAlone() {
        for (String exponent : perhapsExponents()) {
            isNone(exponent);
            for (String whole : DIGITS) {
                isOne(whole + exponent);
            }
        }
    }

    private static void hexDigits() {
        for (String start : new String[] {"0x", "0X"}) {
            for (String whole : HEX) {
                isNone(start + whole);
                isNone(start + whole + ".");
                for (String exponent : exponents("p", "P")) {
                    isOne(start + whole + exponent);
                    isOne(start + whole + "." + exponent);
                }
            }
        }
    }

    private static void hexPointHex() {
        for (String start : new String[] {"0x", "0X"}) {
            for (String part : HEX) {
                isNone(start + "." + part);
                for (String exponent : exponents("p", "P")) {
                    isNone(start + exponent);
                    isNone(start + "." + exponent);
                    isOne(start + "." + part + exponent);
                    isOne(start + "1." + part + exponent);
                    isOne(start + "a_B." + part + exponent);
                }
            }
        }
    }

    private static void everyDigit() {
        for (char digit = '0'; digit <= '9'; digit++) {
            Check.same("read of " + digit, Check.readOutcome("" + digit, false),
                    Long.toString(Check.bits((double) (digit - '0'))));
        }
        String hex = "0123456789abcdefABCDEF";
        for (int i = 0; i < hex.length(); i++) {
            double due = Character.digit(hex.charAt(i), 16);
            Check.same("read of 0x.." + hex.charAt(i),
                    Check.readOutcome("0x" + hex.charAt(i) + "p0", false),
                    Long.toString(Check.bits(due)));
            Check.same("read of 0x1." + hex.charAt(i),
                    Check.readOutcome("0x1." + hex.charAt(i) + "p4", false),
                    Long.toString(Check.bits(16 + due)));
        }
    }

    private static void noneOfTheForms() {
        String[] all = {"", " ", " 1", "1 ", "+1", "-1", "-0.0", ".", "e", "e1", ".e1", "1e", "1e+",
            "1e-", "1e+-1", "1e1.", "1e1e1", "1.2.3", "1..2", "_1", "1_", "1_.5", "1._5", "1.5_",
            "1_e5", "1e_5", "1e5_", "1e+_5", "1e_+5", "._5", "_.5", "1,5", "1f", "1d", "1.0F",
            "1.0D", "1L", "NaN", "Infinity", "a", "1a", "0x", "0X", "0x1", "0x1.", "0x1.8", "0x.p1",
            "0xp1", "0x1p", "0x1p+", "0x1.8p", "0x_1p1", "0x1_p1", "0x1p_1", "0x1p1_", "0x1_.8p1",
            "0x1._8p1", "0x1.8_p1", "0_x1p1", "0x_.8p1", "0x._8p1", "00x1p1", "x1p1", "1x1p1",
            "1p1", ".1p1", "0x1e1", "0x1e+1", "0x1g1p1", "0x1p1f", "0x1pa", "0x1p0x1", "0x1.1.1p1",
            "0x0x1p1", "0x-1p1", "-0x1p1", "0x1p1 ", " 0x1p1", "1e1p1", "0x1p1p1", "0x1p1.",
            "0x1p1e1", "1\"", "1~", "0x1P++1", "__", "_", "1e__1", "0b1", "1e0x1", "[1]", "(1)"};
        for (String one : all) {
            isNone(one);
        }
    }

    /** Each character in the place of each one of a text, and before each one of it. */
    private static void everyCharacterInEveryPlace() {
        String[] all = {"1_2.3_4e+5_6", ".5E-7", "12", "0x1_a.B_fp+1_0", "0X.8P-1", "0xFp0"};
        for (String text : all) {
            for (int place = 0; place <= text.length(); place++) {
                for (char one = FIRST_CHARACTER; one <= LAST_CHARACTER; one++) {
                    String before = text.substring(0, place) + one;
                    Check.readsExactly(before + text.substring(place));
                    Check.readsExactly(before + text.substring(Math.min(place + 1, text.length())));
                }
            }
        }
    }

    /** All texts of a few characters, so that no wrong one is forgotten. */
    private static void everyShortText() {
        everyText("", "1._e+", 6);
        everyText("", "0x.1p-", 5);
        everyText("0x", "1a._p-", 5);
        everyText("0X", "fP.", 6);
    }

    private static void everyText(String start, String letters, int more) {
        Check.readsExactly(start, false);
        for (int i = 0; i < letters.length() && more > 0; i++) {
            everyText(start + letters.charAt(i), letters, more - 1);
        }
    }

    private static void nothingBeforeOrBehind() {
        String[] all = {"1", "1.", "1.5", ".5", "1e1", "1.e1", "1.5e1", ".5e1", "0x1p1", "0x1.p1",
            "0x1.8p1", "0x.8p1"};
        for (String text : all) {
            for (String other : new String[] {" ", "+", "-", "_", "f", "d", "x", ".", "~"}) {
                Check.readsExactly(other + text);
                Check.readsExactly(text + other);
            }
            isNone(" " + text);
            isNone(text + " ");
            isNone("-" + text);
            isNone("+" + text);
            isNone("_" + text);
            isNone(text + "_");
        }
    }

    /** Each form with as many characters as the text can have, and spoilt in the last place. */
    private static void asLongAsTheText() {
        filled("", "3", ".");
        filled("1.", "7", "");
        filled("1.", "0", "1e9");
        filled(".", "9", "");
        filled(".", "0", "5E+1190");
        filled("1", "0", "E-1190");
        filled("1e", "0", "1");
        filled("1", "_", "2");
        filled("0x1", "0", "p-4700");
        filled("0X1", "0", ".P-4700");
        filled("0x1.", "0", "1p0");
        filled("0x.", "0", "1p4740");
        filled("0xf", "_", "Fp0");
        filled("0x1p-", "0", "1");
    }

    private static void filled(String start, String middle, String end) {
        String text = start + middle.repeat(TEXT_LIMIT - start.length() - end.length()) + end;
        isOne(text);
        isNone(text.substring(0, TEXT_LIMIT - 1) + "_");
        isNone("_" + text.substring(1));
    }
}
