/**
 * Numbers with a point, of 32 and 64 bits, from text and to text: a text is read to the nearest
 * number, and a number is written with the fewest digits from which it is read again.
 *
 * <p>All arithmetic is on whole numbers, so that no rounding but the promised one takes place.
 */
public final class RealText {

    private static final int TEXT_LIMIT = 1200;
    private static final int WRITTEN_LIMIT = 32;
    private static final int FIRST_CHARACTER = 32;
    private static final int LAST_CHARACTER = 126;
    private static final int BYTES_OF_LONG = 8;
    private static final int BITS_OF_BYTE = 8;
    private static final int HIGHEST_BYTE = 56;
    private static final int BYTE_MASK = 0xFF;

    /** A text has no sign, so the bits of what is read are never negative: these are free. */
    private static final long NO_LITERAL = -1L;
    private static final long OUT_OF_RANGE = -2L;

    private final Row theText = new Row(TEXT_LIMIT);
    private final Row written = new Row(WRITTEN_LIMIT);
    private final Literal literal = new Literal();
    private final Quotient quotient = new Quotient();
    private final Shortest shortest = new Shortest();
    private final Decimal decimal = new Decimal();
    private int readCount;
    private int noLiteralCount;
    private int outOfRangeCount;

    public RealText() {
    }

    public int text(long w) throws IllegalArgumentException, IllegalStateException {
        if (!hasOnlyCharacters(w)) {
            throw new IllegalArgumentException();
        }
        if (theText.length() + charactersIn(w) > TEXT_LIMIT) {
            throw new IllegalStateException();
        }
        for (int shift = HIGHEST_BYTE; shift >= 0; shift -= BITS_OF_BYTE) {
            int one = byteAt(w, shift);
            if (one != 0) {
                theText.put((char) one);
            }
        }
        return theText.length();
    }

    public long read(boolean single) throws IllegalArgumentException, ArithmeticException {
        long bits = bitsOfText(single ? Format.FLOAT : Format.DOUBLE);
        theText.clear();
        if (bits == NO_LITERAL) {
            noLiteralCount++;
            throw new IllegalArgumentException();
        }
        if (bits == OUT_OF_RANGE) {
            outOfRangeCount++;
            throw new ArithmeticException();
        }
        readCount++;
        return bits;
    }

    public int write(long bits, boolean single) {
        Format format = single ? Format.FLOAT : Format.DOUBLE;
        long magnitude = bits & format.magnitudeMask();
        written.clear();
        if (magnitude > format.infinity()) {
            written.putAll("NaN");
            return written.length();
        }
        if ((bits & format.signMask()) != 0) {
            written.put('-');
        }
        if (magnitude == format.infinity()) {
            written.putAll("Infinity");
        } else if (magnitude == 0) {
            written.putAll("0.0");
        } else {
            shortest.find(magnitude, format);
            decimal.set(shortest.number, shortest.power);
            decimal.putOn(written);
        }
        return written.length();
    }

    public long take() {
        long taken = 0;
        for (int i = 0; i < BYTES_OF_LONG && written.length() > 0; i++) {
            taken = taken << BITS_OF_BYTE | written.takeFirst();
        }
        return taken;
    }

    public int back() {
        theText.clear();
        for (int i = 0; i < written.length(); i++) {
            theText.put(written.at(i));
        }
        written.clear();
        return theText.length();
    }

    public int count(int what) throws IllegalArgumentException {
        switch (what) {
            case 0:
                return theText.length();
            case 1:
                return written.length();
            case 2:
                return readCount;
            case 3:
                return noLiteralCount;
            case 4:
                return outOfRangeCount;
            default:
                throw new IllegalArgumentException();
        }
    }

    private static int byteAt(long w, int shift) {
        return (int) (w >>> shift) & BYTE_MASK;
    }

    private static boolean hasOnlyCharacters(long w) {
        for (int shift = HIGHEST_BYTE; shift >= 0; shift -= BITS_OF_BYTE) {
            int one = byteAt(w, shift);
            if (one != 0 && (one < FIRST_CHARACTER || one > LAST_CHARACTER)) {
                return false;
            }
        }
        return true;
    }

    private static int charactersIn(long w) {
        int characters = 0;
        for (int shift = HIGHEST_BYTE; shift >= 0; shift -= BITS_OF_BYTE) {
            if (byteAt(w, shift) != 0) {
                characters++;
            }
        }
        return characters;
    }

    private long bitsOfText(Format format) {
        if (!literal.scan(theText)) {
            return NO_LITERAL;
        }
        if (literal.digitCount == 0) {
            return 0;
        }
        return literal.isHex ? bitsOfHex(format) : bitsOfDecimal(format);
    }

    private long bitsOfHex(Format format) {
        long lead = 0;
        int power = literal.exponent - Literal.BITS_OF_HEX * literal.fraction;
        boolean more = false;
        for (int i = 0; i < literal.digitCount; i++) {
            int digit = literal.digits[i];
            if (lead >>> (Format.LEAD_BITS - Literal.BITS_OF_HEX) == 0) {
                lead = lead << Literal.BITS_OF_HEX | digit;
            } else {
                power += Literal.BITS_OF_HEX;
                more = more || digit != 0;
            }
        }
        return format.nearest(lead, power, more);
    }

    private long bitsOfDecimal(Format format) {
        int scale = literal.exponent - literal.fraction;
        int magnitude = literal.digitCount + scale;
        if (magnitude > Quotient.MOST_MAGNITUDE || magnitude < Quotient.LEAST_MAGNITUDE) {
            return OUT_OF_RANGE;
        }
        quotient.divide(literal, scale);
        return format.nearest(quotient.lead, quotient.power, quotient.more);
    }

    /** A row of characters that grows at its end and is taken from at its start. */
    private static final class Row {
        /** Stands for a character that is not there; no text holds it. */
        private static final char NOTHING = 0;

        private final char[] letters;
        private int start;
        private int end;

        Row(int limit) {
            letters = new char[limit];
        }

        int length() {
            return end - start;
        }

        char at(int index) {
            return index >= 0 && index < end - start ? letters[start + index] : NOTHING;
        }

        void put(char letter) {
            if (end < letters.length) {
                letters[end] = letter;
                end++;
            }
        }

        void putAll(String word) {
            for (int i = 0; i < word.length(); i++) {
                put(word.charAt(i));
            }
        }

        char takeFirst() {
            char first = at(0);
            if (start < end) {
                start++;
            }
            return first;
        }

        void clear() {
            start = 0;
            end = 0;
        }
    }

    /** The two sizes of numbers; a power is that of two for the last bit of a whole number. */
    private enum Format {
        FLOAT(23, 255, -149),
        DOUBLE(52, 2047, -1074);

        /** How many bits of a value nearest() looks at: all that a long has beside its sign. */
        static final int LEAD_BITS = 63;
        private static final long LEAD_TOP = 1L << (LEAD_BITS - 1);

        private final int fractionBits;
        private final int exponentMask;
        private final int leastPower;

        Format(int fractionBits, int exponentMask, int leastPower) {
            this.fractionBits = fractionBits;
            this.exponentMask = exponentMask;
            this.leastPower = leastPower;
        }

        long infinity() {
            return (long) exponentMask << fractionBits;
        }

        long magnitudeMask() {
            return infinity() | fractionMask();
        }

        long signMask() {
            return magnitudeMask() + 1;
        }

        /** The bit that a normal number has before its fraction, and that its bits leave out. */
        private long hiddenBit() {
            return 1L << fractionBits;
        }

        private long fractionMask() {
            return hiddenBit() - 1;
        }

        private int exponentOf(long magnitude) {
            return (int) (magnitude >>> fractionBits);
        }

        long significandOf(long magnitude) {
            long fraction = magnitude & fractionMask();
            return exponentOf(magnitude) == 0 ? fraction : fraction | hiddenBit();
        }

        int powerOf(long magnitude) {
            return leastPower + Math.max(exponentOf(magnitude) - 1, 0);
        }

        /** Whether the number below is only half as far away as the number above. */
        boolean isNarrowBelow(long magnitude) {
            return exponentOf(magnitude) > 1 && (magnitude & fractionMask()) == 0;
        }

        /**
         * The bits nearest to lead times two to the power, or OUT_OF_RANGE. With more, the value
         * is above that, by less than one of lead's last bit: lead must have some 60 bits then, so
         * that this bit is far below the half that decides.
         */
        long nearest(long lead, int power, boolean more) {
            long top = lead;
            int topPower = power;
            for (int i = 0; i < LEAD_BITS && (top & LEAD_TOP) == 0; i++) {
                top <<= 1;
                topPower--;
            }
            int dropped = Math.max(LEAD_BITS - 1 - fractionBits, leastPower - topPower);
            if (dropped > LEAD_BITS) {
                return OUT_OF_RANGE;
            }
            return join(rounded(top, dropped, more), topPower + dropped);
        }

        private static long rounded(long top, int dropped, boolean more) {
            long kept = top >>> dropped;
            long rest = top - (kept << dropped);
            long half = 1L << (dropped - 1);
            boolean isOdd = (kept & 1) != 0;
            boolean isUp = rest > half || rest == half && (more || isOdd);
            return isUp ? kept + 1 : kept;
        }

        private long join(long significand, int power) {
            int steps = power - leastPower;
            // So many steps are for infinity or more; the sum below might not fit in a long.
            if (significand == 0 || steps >= exponentMask - 1) {
                return OUT_OF_RANGE;
            }
            // By adding, the hidden bit, or a carry out of rounding, raises the exponent by itself.
            long bits = ((long) steps << fractionBits) + significand;
            return bits < infinity() ? bits : OUT_OF_RANGE;
        }
    }

    /** What a text says, if it is a literal: its digits, where the point is, and the exponent. */
    private static final class Literal {
        static final int BITS_OF_HEX = 4;
        /** Far beyond what 1200 digits can make up for, and far from the end of an int. */
        private static final int EXPONENT_LIMIT = 1000000;
        private static final int DECIMAL_BASE = 10;
        private static final int HEX_BASE = 16;

        /** Without zeros before and behind. */
        final byte[] digits = new byte[TEXT_LIMIT];
        int digitCount;
        /** By how many digits the point stands before the end of digits; may be below 0. */
        int fraction;
        int exponent;
        boolean isHex;

        boolean scan(Row source) {
            isHex = source.at(0) == '0' && isEither(source.at(1), 'x', 'X');
            int base = isHex ? HEX_BASE : DECIMAL_BASE;
            int wholeStart = isHex ? 2 : 0;
            int wholeEnd = endOfDigits(source, wholeStart, base);
            int partStart = source.at(wholeEnd) == '.' ? wholeEnd + 1 : wholeEnd;
            int partEnd = partStart > wholeEnd ? endOfDigits(source, partStart, base) : partStart;
            if (wholeEnd == wholeStart && partEnd == partStart) {
                return false;
            }
            digitCount = 0;
            addDigits(source, wholeStart, wholeEnd, base);
            fraction = addDigits(source, partStart, partEnd, base);
            dropZerosBehind();
            return scanExponent(source, partEnd);
        }

        private boolean scanExponent(Row source, int start) {
            exponent = 0;
            boolean isMarked = isHex ? isEither(source.at(start), 'p', 'P')
                    : isEither(source.at(start), 'e', 'E');
            if (!isMarked) {
                return !isHex && start == source.length();
            }
            char sign = source.at(start + 1);
            int digitStart = isEither(sign, '+', '-') ? start + 2 : start + 1;
            int digitEnd = endOfDigits(source, digitStart, DECIMAL_BASE);
            int size = exponentIn(source, digitStart, digitEnd);
            exponent = sign == '-' ? -size : size;
            return digitEnd > digitStart && digitEnd == source.length();
        }

        private static boolean isEither(char letter, char one, char other) {
            return letter == one || letter == other;
        }

        /** Stops behind the last digit: a _ that no digit follows then fits no form. */
        private static int endOfDigits(Row source, int start, int base) {
            int end = start;
            for (int i = start; i < source.length(); i++) {
                char letter = source.at(i);
                if (digitOf(letter, base) >= 0) {
                    end = i + 1;
                } else if (letter != '_' || end == start) {
                    break;
                }
            }
            return end;
        }

        private static int digitOf(char letter, int base) {
            if (letter >= '0' && letter <= '9') {
                return letter - '0';
            }
            if (base == HEX_BASE && letter >= 'a' && letter <= 'f') {
                return letter - 'a' + DECIMAL_BASE;
            }
            if (base == HEX_BASE && letter >= 'A' && letter <= 'F') {
                return letter - 'A' + DECIMAL_BASE;
            }
            return -1;
        }

        private int addDigits(Row source, int start, int end, int base) {
            int added = 0;
            for (int i = start; i < end; i++) {
                int digit = digitOf(source.at(i), base);
                if (digit >= 0) {
                    added++;
                    addDigit(digit);
                }
            }
            return added;
        }

        private void addDigit(int digit) {
            boolean isZeroBefore = digitCount == 0 && digit == 0;
            if (!isZeroBefore && digitCount < digits.length) {
                digits[digitCount] = (byte) digit;
                digitCount++;
            }
        }

        private void dropZerosBehind() {
            while (digitCount > 0 && digits[digitCount - 1] == 0) {
                digitCount--;
                fraction--;
            }
        }

        private static int exponentIn(Row source, int start, int end) {
            int size = 0;
            for (int i = start; i < end; i++) {
                int digit = digitOf(source.at(i), DECIMAL_BASE);
                if (digit >= 0) {
                    size = Math.min(size * DECIMAL_BASE + digit, EXPONENT_LIMIT);
                }
            }
            return size;
        }
    }

    /** A whole number of 0 or more, in limbs of 32 bits, the lowest first; its row is made once. */
    private static final class Big {
        private static final int LIMB_BITS = 32;
        private static final long LIMB_MASK = 0xFFFFFFFFL;
        private static final int MOST_FIVES = 13;
        private static final int[] POWERS_OF_FIVE = {
            1, 5, 25, 125, 625, 3125, 15625, 78125, 390625, 1953125, 9765625, 48828125, 244140625,
            1220703125
        };

        private final int[] limbs;
        /** How many limbs are in use; the highest of them is not 0. */
        private int size;

        Big(int limit) {
            limbs = new int[limit];
        }

        void set(long value) {
            size = 0;
            addLimb(value & LIMB_MASK);
            addLimb(value >>> LIMB_BITS);
            trim();
        }

        void copy(Big other) {
            size = Math.min(other.size, limbs.length);
            System.arraycopy(other.limbs, 0, limbs, 0, size);
        }

        boolean isZero() {
            return size == 0;
        }

        int bitLength() {
            if (size == 0) {
                return 0;
            }
            long top = limbAt(size - 1);
            int topBits = 1;
            while (topBits < LIMB_BITS && top >>> topBits != 0) {
                topBits++;
            }
            return (size - 1) * LIMB_BITS + topBits;
        }

        /** Below 0, 0 or above 0 as this is less than, the same as or more than the other. */
        int compare(Big other) {
            if (size != other.size) {
                return size - other.size;
            }
            for (int i = size - 1; i >= 0; i--) {
                if (limbs[i] != other.limbs[i]) {
                    return limbAt(i) < other.limbAt(i) ? -1 : 1;
                }
            }
            return 0;
        }

        void add(Big other) {
            long carry = 0;
            int longer = Math.max(size, other.size);
            for (int i = 0; i < longer; i++) {
                carry += limbAt(i) + other.limbAt(i);
                setLimb(i, carry);
                carry >>>= LIMB_BITS;
            }
            if (carry != 0) {
                addLimb(carry);
            }
        }

        /** The other must not be more than this. */
        void subtract(Big other) {
            long borrow = 0;
            for (int i = 0; i < size; i++) {
                long difference = limbAt(i) - other.limbAt(i) - borrow;
                limbs[i] = (int) difference;
                borrow = difference < 0 ? 1 : 0;
            }
            trim();
        }

        /** Neither number is below 0. */
        void multiplyAndAdd(int factor, int summand) {
            long carry = summand;
            for (int i = 0; i < size; i++) {
                carry += limbAt(i) * factor;
                limbs[i] = (int) carry;
                carry >>>= LIMB_BITS;
            }
            if (carry != 0) {
                addLimb(carry);
            }
        }

        void multiplyByFives(int count) {
            for (int left = count; left > 0; left -= MOST_FIVES) {
                multiplyAndAdd(POWERS_OF_FIVE[Math.min(left, MOST_FIVES)], 0);
            }
        }

        void multiplyByTens(int count) {
            multiplyByFives(count);
            shiftLeft(count);
        }

        void shiftLeft(int count) {
            int whole = count / LIMB_BITS;
            int part = count % LIMB_BITS;
            // Rows are made long enough; the question keeps every index inside all the same.
            if (count <= 0 || size + whole >= limbs.length) {
                return;
            }
            for (int i = size; i >= 0; i--) {
                long pair = limbAt(i) << LIMB_BITS | limbAt(i - 1);
                limbs[i + whole] = (int) (pair << part >>> LIMB_BITS);
            }
            for (int i = 0; i < whole; i++) {
                limbs[i] = 0;
            }
            size += whole + 1;
            trim();
        }

        private long limbAt(int index) {
            return index >= 0 && index < size ? limbs[index] & LIMB_MASK : 0;
        }

        private void setLimb(int index, long value) {
            if (index < size) {
                limbs[index] = (int) value;
            } else {
                addLimb(value);
            }
        }

        private void addLimb(long value) {
            if (size < limbs.length) {
                limbs[size] = (int) value;
                size++;
            }
        }

        private void trim() {
            while (size > 0 && limbs[size - 1] == 0) {
                size--;
            }
        }
    }

    /** The first bits of a literal in base ten, by division of two whole numbers. */
    private static final class Quotient {
        /** A value of 10 to the 310 or more is out of range in both sizes. */
        static final int MOST_MAGNITUDE = 310;
        /** So is a value below 10 to the -330. */
        static final int LEAST_MAGNITUDE = -330;
        /** 1200 digits have 3987 bits, and 5 to the 1530, the most that divides them, has 3553. */
        private static final int LIMBS = 128;
        private static final int DIGITS_AT_ONCE = 9;
        private static final int BASE = 10;

        private final Big numerator = new Big(LIMBS);
        private final Big denominator = new Big(LIMBS);
        long lead;
        int power;
        boolean more;

        /** Finds lead, power and more, as Format.nearest takes them. */
        void divide(Literal literal, int scale) {
            setNumerator(literal);
            denominator.set(1);
            numerator.multiplyByFives(scale);
            denominator.multiplyByFives(-scale);
            int ahead = numerator.bitLength() - denominator.bitLength();
            denominator.shiftLeft(ahead);
            numerator.shiftLeft(-ahead);
            divideBits();
            power = scale + ahead - (Format.LEAD_BITS - 1);
            more = !numerator.isZero();
        }

        private void setNumerator(Literal literal) {
            numerator.set(0);
            int group = 0;
            int unit = 1;
            int inGroup = 0;
            for (int i = 0; i < literal.digitCount; i++) {
                group = group * BASE + literal.digits[i];
                unit *= BASE;
                inGroup++;
                if (inGroup == DIGITS_AT_ONCE || i == literal.digitCount - 1) {
                    numerator.multiplyAndAdd(unit, group);
                    group = 0;
                    unit = 1;
                    inGroup = 0;
                }
            }
        }

        private void divideBits() {
            lead = 0;
            for (int i = 0; i < Format.LEAD_BITS; i++) {
                lead <<= 1;
                if (numerator.compare(denominator) >= 0) {
                    numerator.subtract(denominator);
                    lead |= 1;
                }
                numerator.shiftLeft(1);
            }
        }
    }

    /** The decimal with the fewest digits, two at least, that is read as a given number. */
    private static final class Shortest {
        /** The greatest number in it is some 2 to the 1080. */
        private static final int LIMBS = 40;
        private static final int LEAST_DIGITS = 2;
        /** 17 digits tell any double; more are never looked for. */
        private static final int MOST_DIGITS = 17;
        private static final int BASE = 10;
        /** The logarithm of two, in base ten, in units of a hundred thousandth. */
        private static final int LOGARITHM = 30103;
        private static final int LOGARITHM_UNIT = 100000;
        private static final int MOST_CORRECTIONS = 3;

        /** What of the number is not yet in its digits, as a part of unit. */
        private final Big rest = new Big(LIMBS);
        private final Big unit = new Big(LIMBS);
        /** Half the way to the number below. */
        private final Big halfGap = new Big(LIMBS);
        private final Big sum = new Big(LIMBS);
        private boolean isNarrowBelow;
        private boolean isEven;

        /** The decimal is number times ten to the power. */
        long number;
        int power;

        void find(long magnitude, Format format) {
            long significand = format.significandOf(magnitude);
            isNarrowBelow = format.isNarrowBelow(magnitude);
            isEven = (significand & 1) == 0;
            start(significand, format.powerOf(magnitude));
            number = 0;
            boolean isDownFine = false;
            boolean isUpFine = false;
            for (int i = 1; i <= MOST_DIGITS && !isDownFine && !isUpFine; i++) {
                number = number * BASE + nextDigit();
                power--;
                isDownFine = i >= LEAST_DIGITS && isReadBelow();
                isUpFine = i >= LEAST_DIGITS && isReadAbove();
            }
            if (isUpFine && (!isDownFine || isNearerAbove())) {
                number++;
            }
        }

        /** Makes rest / unit the number divided by ten to the power, at least 0.1 and below 1. */
        private void start(long significand, int powerOfTwo) {
            rest.set(significand);
            rest.shiftLeft(2);
            unit.set(4);
            halfGap.set(isNarrowBelow ? 1 : 2);
            power = Math.floorDiv((rest.bitLength() - 3 + powerOfTwo) * LOGARITHM, LOGARITHM_UNIT);
            rest.shiftLeft(powerOfTwo);
            halfGap.shiftLeft(powerOfTwo);
            unit.shiftLeft(-powerOfTwo);
            unit.multiplyByTens(power);
            rest.multiplyByTens(-power);
            halfGap.multiplyByTens(-power);
            // The guess was from the number's highest bit alone: never too high, perhaps too low.
            for (int i = 0; i < MOST_CORRECTIONS && rest.compare(unit) >= 0; i++) {
                unit.multiplyAndAdd(BASE, 0);
                power++;
            }
        }

        private int nextDigit() {
            rest.multiplyAndAdd(BASE, 0);
            halfGap.multiplyAndAdd(BASE, 0);
            int digit = 0;
            for (int i = 1; i < BASE && rest.compare(unit) >= 0; i++) {
                rest.subtract(unit);
                digit++;
            }
            return digit;
        }

        /** Whether the digits so far are read as the number; a middle is read as the even one. */
        private boolean isReadBelow() {
            int order = rest.compare(halfGap);
            return order < 0 || order == 0 && isEven;
        }

        /** Whether the digits so far, with one more of the last, are read as the number. */
        private boolean isReadAbove() {
            sum.copy(rest);
            sum.add(halfGap);
            if (isNarrowBelow) {
                sum.add(halfGap);
            }
            int order = sum.compare(unit);
            return order > 0 || order == 0 && isEven;
        }

        private boolean isNearerAbove() {
            sum.copy(rest);
            sum.add(rest);
            int order = sum.compare(unit);
            return order > 0 || order == 0 && (number & 1) != 0;
        }
    }

    /** A decimal by its digits, without zeros behind, and how it is laid out as text. */
    private static final class Decimal {
        private static final int BASE = 10;
        private static final int MOST_DIGITS = 20;
        /** From 0.001, where two zeros stand between the point and the digits ... */
        private static final int LEAST_PLAIN = -2;
        /** ... to below 10000000, where seven digits stand before the point. */
        private static final int MOST_PLAIN = 7;

        /** The last digit first. */
        private final byte[] reversed = new byte[MOST_DIGITS];
        private int digitCount;
        /** How many digits stand before the point, if the exponent is 0. */
        private int point;

        void set(long number, int power) {
            digitCount = 0;
            point = power;
            long left = number;
            for (int i = 0; i < MOST_DIGITS && left > 0; i++) {
                int digit = (int) (left % BASE);
                left /= BASE;
                point++;
                if (digit != 0 || digitCount > 0) {
                    reversed[digitCount] = (byte) digit;
                    digitCount++;
                }
            }
        }

        void putOn(Row row) {
            if (point < LEAST_PLAIN || point > MOST_PLAIN) {
                putDigits(row, 0, 1);
                row.put('.');
                putDigits(row, 1, Math.max(digitCount, 2));
                row.put('E');
                putExponent(row, point - 1);
            } else {
                putDigits(row, Math.min(point - 1, 0), point);
                row.put('.');
                putDigits(row, point, Math.max(digitCount, point + 1));
            }
        }

        private void putDigits(Row row, int from, int to) {
            for (int i = from; i < to; i++) {
                row.put((char) ('0' + digitAt(i)));
            }
        }

        private int digitAt(int index) {
            return index >= 0 && index < digitCount ? reversed[digitCount - 1 - index] : 0;
        }

        private static void putExponent(Row row, int exponent) {
            int size = Math.abs(exponent);
            if (exponent < 0) {
                row.put('-');
            }
            for (int unit = 100; unit > 0; unit /= BASE) {
                if (size >= unit || unit == 1) {
                    row.put((char) ('0' + size / unit % BASE));
                }
            }
        }
    }
}
