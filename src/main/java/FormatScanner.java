/** A small printf and scanf engine in one object; ../shared/DOC.md says what it promises. */
public final class FormatScanner {
    public static final int MAX_FORMAT = 64;
    public static final int MAX_INPUT = 256;
    public static final int SLOTS = 8;
    public static final int KIND_LITERAL = 0;
    public static final int KIND_LONG = 256;
    public static final int ERR_TRUNCATED = -1;
    public static final int ERR_BAD_CONV = -2;
    public static final int ERR_BAD_POS = -3;
    public static final int ERR_MIXED = -4;
    public static final int ERR_BAD_WIDTH = -5;
    public static final int ERR_TOO_MANY = -6;
    public static final int ERR_GAP = -7;
    public static final int ERR_OVERFLOW = -8;
    public static final int ERR_NOT_COMPILED = -9;
    public static final int ERR_FULL = -10;
    public static final int ERR_BAD_LENGTH = -11;

    private static final int MIN_CAPACITY = 16;
    private static final int MAX_CAPACITY = 256;
    private static final int MAX_DIRECTIVES = 16;
    private static final int MAX_FIELD = 99;
    private static final int NUMBER_CEILING = 1000;
    private static final int SCAN_BUDGET = 1000;
    private static final int TEXT_CHARS = 8;
    // The longest text of one directive is a two-char prefix before 99 digits.
    private static final int MAX_TEXT = 128;
    // The most digits that 64 bits take is 22, in base 8.
    private static final int MAX_DIGITS = 32;
    private static final int CONVERSION_BITS = 255;
    private static final long LOW_32_BITS = 0xFFFFFFFFL;

    private static final int OK = 0;
    private static final int NONE = -1;
    // Stands where a position 1..8 would, for a use that names none.
    private static final int SEQUENTIAL = 0;

    private static final int FLAG_LEFT = 1;
    private static final int FLAG_PLUS = 2;
    private static final int FLAG_SPACE = 4;
    private static final int FLAG_ZERO = 8;
    private static final int FLAG_ALTERNATE = 16;

    private final int capacity;
    private final char[] format = new char[MAX_FORMAT];
    private int formatLength;
    private final long[] args = new long[SLOTS];
    private final char[] output = new char[MAX_CAPACITY];
    private int outputLength;
    private final char[] input = new char[MAX_INPUT];
    private int inputLength;
    private final long[] results = new long[SLOTS];
    private int resultMask;
    private int scanPos;

    // The table. Every entry takes a char of the format at least, so MAX_FORMAT rows are enough.
    private boolean compiled;
    private int entryCount;
    private int argTotal;
    private final int[] kinds = new int[MAX_FORMAT];
    private final int[] literalStart = new int[MAX_FORMAT];
    private final int[] literalEnd = new int[MAX_FORMAT];
    private final int[] flags = new int[MAX_FORMAT];
    // A width of 0 acts as no width everywhere; a precision of 0 does not, so that one has NONE.
    private final int[] widths = new int[MAX_FORMAT];
    private final int[] precisions = new int[MAX_FORMAT];
    private final int[] widthSlots = new int[MAX_FORMAT];
    private final int[] precisionSlots = new int[MAX_FORMAT];
    private final int[] valueSlots = new int[MAX_FORMAT];
    private final char[] literals = new char[MAX_FORMAT];
    private int literalTotal;

    // What compile keeps while it reads. A use is NONE, SEQUENTIAL or a position.
    private int cursor;
    private int widthUse;
    private int precisionUse;
    private int valueUse;
    private int directiveCount;
    private int sequentialUses;
    private int positionsUsed;

    // What render keeps while it writes: a refused text must leave the output as it was.
    private final char[] draft = new char[MAX_CAPACITY];
    private int draftLength;
    private final char[] text = new char[MAX_TEXT];
    private int textLength;
    private final int[] digits = new int[MAX_DIGITS];

    // What scan keeps while it reads one conversion.
    private int budget;
    private long scanValue;

    public FormatScanner(int cap) {
        if (cap < MIN_CAPACITY) {
            capacity = MIN_CAPACITY;
        } else if (cap > MAX_CAPACITY) {
            capacity = MAX_CAPACITY;
        } else {
            capacity = cap;
        }
    }

    public void clearFormat() {
        formatLength = 0;
        compiled = false;
    }

    public int putFormatChar(char c) {
        if (formatLength >= MAX_FORMAT) {
            return ERR_FULL;
        }
        format[formatLength] = c;
        formatLength++;
        compiled = false;
        return formatLength;
    }

    public int compile() {
        compiled = false;
        entryCount = 0;
        literalTotal = 0;
        cursor = 0;
        directiveCount = 0;
        sequentialUses = 0;
        positionsUsed = 0;
        int error = OK;
        // Every round takes a char at least, so MAX_FORMAT rounds read any format.
        for (int round = 0; round < MAX_FORMAT && cursor < formatLength && error == OK; round++) {
            if (format[cursor] != '%') {
                addLiteralChar(format[cursor]);
                cursor++;
            } else if (cursor + 1 < formatLength && format[cursor + 1] == '%') {
                addLiteralChar('%');
                cursor += 2;
            } else {
                error = readDirective();
            }
        }
        if (error == OK) {
            error = countArgs();
        }
        if (error != OK) {
            return error;
        }
        compiled = true;
        return entryCount;
    }

    public int argCount() {
        return compiled ? argTotal : 0;
    }

    public int entryKind(int i) {
        if (!compiled || i < 0 || i >= entryCount) {
            return NONE;
        }
        return kinds[i];
    }

    public boolean setArg(int slot, long value) {
        if (slot < 0 || slot >= SLOTS) {
            return false;
        }
        args[slot] = value;
        return true;
    }

    public int render() {
        if (!compiled) {
            return ERR_NOT_COMPILED;
        }
        if (!starsAreGood()) {
            return ERR_BAD_WIDTH;
        }
        draftLength = 0;
        for (int entry = 0; entry < entryCount; entry++) {
            if (kinds[entry] == KIND_LITERAL) {
                draftLiteral(entry);
            } else {
                draftConversion(entry);
            }
        }
        if (draftLength > capacity) {
            return ERR_OVERFLOW;
        }
        for (int i = 0; i < draftLength; i++) {
            output[i] = draft[i];
        }
        outputLength = draftLength;
        return outputLength;
    }

    public int outLength() {
        return outputLength;
    }

    public char outChar(int i) {
        if (i < 0 || i >= outputLength) {
            return (char) 0;
        }
        return output[i];
    }

    public void clearInput() {
        inputLength = 0;
    }

    public int putInputChar(char c) {
        if (inputLength >= MAX_INPUT) {
            return ERR_FULL;
        }
        input[inputLength] = c;
        inputLength++;
        return inputLength;
    }

    public int copyOutputToInput() {
        for (int i = 0; i < outputLength; i++) {
            input[i] = output[i];
        }
        inputLength = outputLength;
        return inputLength;
    }

    public int scan() {
        if (!compiled) {
            return ERR_NOT_COMPILED;
        }
        if (!starsAreGood()) {
            return ERR_BAD_WIDTH;
        }
        clearResults();
        int count = 0;
        boolean matched = true;
        for (int entry = 0; entry < entryCount && matched; entry++) {
            if (kinds[entry] == KIND_LITERAL) {
                matched = matchLiteral(entry);
            } else {
                matched = scanConversion(entry);
                if (matched) {
                    count++;
                }
            }
        }
        return count;
    }

    public long scanned(int slot) {
        if (slot < 0 || slot >= SLOTS) {
            return 0;
        }
        return results[slot];
    }

    public int scanMask() {
        return resultMask;
    }

    public int scanEnd() {
        return scanPos;
    }

    // Compiling: each reader moves the cursor past what it takes and answers OK or the error.

    private void addLiteralChar(char c) {
        if (entryCount == 0 || kinds[entryCount - 1] != KIND_LITERAL) {
            addEntry();
        }
        if (literalTotal < MAX_FORMAT) {
            literals[literalTotal] = c;
            literalTotal++;
            literalEnd[entryCount - 1] = literalTotal;
        }
    }

    private void addEntry() {
        // No format needs more rows; the index is looked at so that this can be seen here.
        if (entryCount >= MAX_FORMAT) {
            return;
        }
        kinds[entryCount] = KIND_LITERAL;
        literalStart[entryCount] = literalTotal;
        literalEnd[entryCount] = literalTotal;
        flags[entryCount] = 0;
        widths[entryCount] = 0;
        precisions[entryCount] = NONE;
        widthSlots[entryCount] = NONE;
        precisionSlots[entryCount] = NONE;
        valueSlots[entryCount] = NONE;
        entryCount++;
    }

    private int readDirective() {
        addEntry();
        int entry = entryCount - 1;
        cursor++;
        widthUse = NONE;
        precisionUse = NONE;
        valueUse = readPosition();
        if (valueUse < 0) {
            return valueUse;
        }
        readFlags(entry);
        int error = readWidth(entry);
        if (error == OK) {
            error = readPrecision(entry);
        }
        if (error == OK) {
            error = readConversion(entry);
        }
        if (error == OK) {
            error = takeSlots(entry);
        }
        return error;
    }

    /** Answers a position 1..8, ERR_BAD_POS, or SEQUENTIAL if no digit run with a '$' stands here. */
    private int readPosition() {
        int start = cursor;
        int position = readNumber();
        if (cursor == start || !takeFormatChar('$')) {
            cursor = start;
            return SEQUENTIAL;
        }
        if (position < 1 || position > SLOTS) {
            return ERR_BAD_POS;
        }
        return position;
    }

    private int readNumber() {
        int value = 0;
        while (cursor < formatLength && format[cursor] >= '0' && format[cursor] <= '9') {
            value = value * 10 + (format[cursor] - '0');
            if (value > NUMBER_CEILING) {
                value = NUMBER_CEILING;
            }
            cursor++;
        }
        return value;
    }

    private boolean takeFormatChar(char wanted) {
        if (cursor >= formatLength || format[cursor] != wanted) {
            return false;
        }
        cursor++;
        return true;
    }

    private void readFlags(int entry) {
        while (cursor < formatLength) {
            int flag = flagOf(format[cursor]);
            if (flag == 0) {
                return;
            }
            flags[entry] |= flag;
            cursor++;
        }
    }

    private int flagOf(char c) {
        switch (c) {
            case '-':
                return FLAG_LEFT;
            case '+':
                return FLAG_PLUS;
            case ' ':
                return FLAG_SPACE;
            case '0':
                return FLAG_ZERO;
            case '#':
                return FLAG_ALTERNATE;
            default:
                return 0;
        }
    }

    private int readWidth(int entry) {
        if (takeFormatChar('*')) {
            widthUse = readPosition();
            return widthUse < 0 ? widthUse : OK;
        }
        // The flags have taken every '0' here, so a run starts with '1'..'9' or is empty: no width.
        widths[entry] = readNumber();
        return widths[entry] > MAX_FIELD ? ERR_BAD_WIDTH : OK;
    }

    private int readPrecision(int entry) {
        if (!takeFormatChar('.')) {
            return OK;
        }
        if (takeFormatChar('*')) {
            precisionUse = readPosition();
            return precisionUse < 0 ? precisionUse : OK;
        }
        precisions[entry] = readNumber();
        return precisions[entry] > MAX_FIELD ? ERR_BAD_WIDTH : OK;
    }

    private int readConversion(int entry) {
        boolean isLong = takeFormatChar('l');
        if (cursor >= formatLength) {
            return ERR_TRUNCATED;
        }
        char c = format[cursor];
        boolean isText = c == 'c' || c == 's';
        if (!isText && baseOf(c) == 0) {
            return ERR_BAD_CONV;
        }
        if (isText && isLong) {
            return ERR_BAD_LENGTH;
        }
        cursor++;
        kinds[entry] = isLong ? c + KIND_LONG : c;
        return OK;
    }

    /** Answers the base of a number conversion, and 0 for any other char. */
    private int baseOf(int conversion) {
        switch (conversion) {
            case 'd':
            case 'u':
                return 10;
            case 'x':
            case 'X':
                return 16;
            case 'o':
                return 8;
            default:
                return 0;
        }
    }

    private int takeSlots(int entry) {
        directiveCount++;
        if (directiveCount > MAX_DIRECTIVES) {
            return ERR_TOO_MANY;
        }
        if (widthUse != NONE) {
            int slot = takeSlot(widthUse);
            if (slot < 0) {
                return slot;
            }
            widthSlots[entry] = slot;
        }
        if (precisionUse != NONE) {
            int slot = takeSlot(precisionUse);
            if (slot < 0) {
                return slot;
            }
            precisionSlots[entry] = slot;
        }
        int slot = takeSlot(valueUse);
        if (slot < 0) {
            return slot;
        }
        valueSlots[entry] = slot;
        return OK;
    }

    /** Answers the slot of the next use in the format, or the error that forbids this use. */
    private int takeSlot(int use) {
        if (use == SEQUENTIAL) {
            if (positionsUsed != 0) {
                return ERR_MIXED;
            }
            if (sequentialUses >= SLOTS) {
                return ERR_TOO_MANY;
            }
            sequentialUses++;
            return sequentialUses - 1;
        }
        if (sequentialUses > 0) {
            return ERR_MIXED;
        }
        positionsUsed |= 1 << (use - 1);
        return use - 1;
    }

    private int countArgs() {
        int unbroken = 0;
        while (unbroken < SLOTS && ((positionsUsed >> unbroken) & 1) == 1) {
            unbroken++;
        }
        if ((positionsUsed >> unbroken) != 0) {
            return ERR_GAP;
        }
        // A format has uses of one mode alone, so one of the two is 0.
        argTotal = unbroken + sequentialUses;
        return OK;
    }

    // What an entry asks for, with its stars looked up.

    private long argAt(int slot) {
        return slot >= 0 && slot < SLOTS ? args[slot] : 0;
    }

    private boolean starsAreGood() {
        for (int entry = 0; entry < entryCount; entry++) {
            if (widthSlots[entry] != NONE) {
                int width = (int) argAt(widthSlots[entry]);
                if (width < -MAX_FIELD || width > MAX_FIELD) {
                    return false;
                }
            }
            if (precisionSlots[entry] != NONE) {
                int precision = (int) argAt(precisionSlots[entry]);
                if (precision > MAX_FIELD) {
                    return false;
                }
            }
        }
        return true;
    }

    private int widthOf(int entry) {
        if (widthSlots[entry] == NONE) {
            return widths[entry];
        }
        int width = (int) argAt(widthSlots[entry]);
        return width < 0 ? -width : width;
    }

    private int precisionOf(int entry) {
        if (precisionSlots[entry] == NONE) {
            return precisions[entry];
        }
        int precision = (int) argAt(precisionSlots[entry]);
        return precision < 0 ? NONE : precision;
    }

    private boolean isLeft(int entry) {
        if (hasFlag(entry, FLAG_LEFT)) {
            return true;
        }
        return widthSlots[entry] != NONE && (int) argAt(widthSlots[entry]) < 0;
    }

    private boolean hasFlag(int entry, int flag) {
        return (flags[entry] & flag) != 0;
    }

    private int conversionOf(int entry) {
        return kinds[entry] & CONVERSION_BITS;
    }

    /** Answers the value as a directive without 'l' narrows it; one with 'l' keeps it whole. */
    private long fitted(int entry, long value) {
        if ((kinds[entry] & KIND_LONG) != 0) {
            return value;
        }
        if (conversionOf(entry) == 'd') {
            return (int) value;
        }
        return value & LOW_32_BITS;
    }

    // Rendering: a conversion is written into the text first, because padding needs its length.

    private void draftLiteral(int entry) {
        for (int i = literalStart[entry]; i < literalEnd[entry]; i++) {
            draftChar(literals[i]);
        }
    }

    private void draftConversion(int entry) {
        textLength = 0;
        int conversion = conversionOf(entry);
        if (conversion == 'c') {
            long value = argAt(valueSlots[entry]);
            writeChar((char) value);
        } else if (conversion == 's') {
            writePackedText(entry);
        } else {
            writeNumber(entry);
        }
        int padding = widthOf(entry) - textLength;
        boolean left = isLeft(entry);
        if (!left) {
            draftSpaces(padding);
        }
        for (int i = 0; i < textLength; i++) {
            draftChar(text[i]);
        }
        if (left) {
            draftSpaces(padding);
        }
    }

    private void draftSpaces(int count) {
        for (int i = 0; i < count; i++) {
            draftChar(' ');
        }
    }

    private void draftChar(char c) {
        if (draftLength < MAX_CAPACITY) {
            draft[draftLength] = c;
        }
        // Chars past the end still count: the length tells that the text overflows.
        draftLength++;
    }

    private void writeChar(char c) {
        if (textLength < MAX_TEXT) {
            text[textLength] = c;
            textLength++;
        }
    }

    private void writeZeros(int count) {
        for (int i = 0; i < count; i++) {
            writeChar('0');
        }
    }

    private void writePackedText(int entry) {
        long packed = argAt(valueSlots[entry]);
        int precision = precisionOf(entry);
        int most = precision == NONE || precision > TEXT_CHARS ? TEXT_CHARS : precision;
        for (int k = 0; k < most; k++) {
            long c = (packed >>> (8 * k)) & 255;
            if (c == 0) {
                return;
            }
            writeChar((char) c);
        }
    }

    private void writeNumber(int entry) {
        long value = argAt(valueSlots[entry]);
        long n = fitted(entry, value);
        int precision = precisionOf(entry);
        int digitCount = splitIntoDigits(entry, n);
        if (n == 0 && precision == 0) {
            digitCount = 0;
        }
        int zeros = precision > digitCount ? precision - digitCount : 0;
        boolean startsWithZero = zeros > 0 || (n == 0 && digitCount > 0);
        if (conversionOf(entry) == 'o' && hasFlag(entry, FLAG_ALTERNATE) && !startsWithZero) {
            zeros = 1;
        }
        writePrefix(entry, n);
        if (hasFlag(entry, FLAG_ZERO) && !isLeft(entry) && precision == NONE) {
            int missing = widthOf(entry) - textLength - zeros - digitCount;
            if (missing > 0) {
                zeros += missing;
            }
        }
        writeZeros(zeros);
        writeDigits(entry, digitCount);
    }

    private void writePrefix(int entry, long n) {
        int conversion = conversionOf(entry);
        if (conversion == 'd') {
            if (n < 0) {
                writeChar('-');
            } else if (hasFlag(entry, FLAG_PLUS)) {
                writeChar('+');
            } else if (hasFlag(entry, FLAG_SPACE)) {
                writeChar(' ');
            }
        } else if (baseOf(conversion) == 16 && hasFlag(entry, FLAG_ALTERNATE) && n != 0) {
            writeChar('0');
            writeChar((char) conversion);
        }
    }

    /** Puts the digits of the magnitude of n into digits, the lowest first; answers how many. */
    private int splitIntoDigits(int entry, long n) {
        int conversion = conversionOf(entry);
        int halfBase = baseOf(conversion) / 2;
        if (halfBase == 0) {
            return 0;
        }
        // The magnitude of the least long wraps to itself, which is 2^63 when taken as unsigned.
        long rest = conversion == 'd' && n < 0 ? -n : n;
        int count = 0;
        do {
            // Every base is even: halving both sides first makes the signed division an unsigned one.
            long quotient = (rest >>> 1) / halfBase;
            digits[count] = (int) (rest - quotient * halfBase * 2);
            rest = quotient;
            count++;
        } while (rest != 0 && count < MAX_DIGITS);
        return count;
    }

    private void writeDigits(int entry, int digitCount) {
        char letterA = conversionOf(entry) == 'X' ? 'A' : 'a';
        for (int i = digitCount - 1; i >= 0; i--) {
            int digit = digits[i];
            if (digit < 10) {
                writeChar((char) ('0' + digit));
            } else {
                writeChar((char) (letterA + digit - 10));
            }
        }
    }

    // Scanning: scanPos is the place in the input, and the end once the last entry is done.

    private void clearResults() {
        for (int slot = 0; slot < SLOTS; slot++) {
            results[slot] = 0;
        }
        resultMask = 0;
        scanPos = 0;
    }

    private boolean matchLiteral(int entry) {
        for (int i = literalStart[entry]; i < literalEnd[entry]; i++) {
            if (isWhitespace(literals[i])) {
                skipWhitespace();
            } else if (scanPos < inputLength && input[scanPos] == literals[i]) {
                scanPos++;
            } else {
                return false;
            }
        }
        return true;
    }

    private boolean isWhitespace(char c) {
        return c == ' ' || (c >= 9 && c <= 13);
    }

    private void skipWhitespace() {
        while (scanPos < inputLength && isWhitespace(input[scanPos])) {
            scanPos++;
        }
    }

    private boolean scanConversion(int entry) {
        int start = scanPos;
        boolean found;
        if (conversionOf(entry) == 'c') {
            found = scanChar();
        } else if (conversionOf(entry) == 's') {
            found = scanPackedText(entry);
        } else {
            found = scanNumber(entry);
        }
        if (!found) {
            scanPos = start;
            return false;
        }
        keepResult(valueSlots[entry]);
        return true;
    }

    private void keepResult(int slot) {
        if (slot >= 0 && slot < SLOTS) {
            results[slot] = scanValue;
            resultMask |= 1 << slot;
        }
    }

    private boolean scanChar() {
        if (scanPos >= inputLength) {
            return false;
        }
        scanValue = input[scanPos];
        scanPos++;
        return true;
    }

    private boolean scanPackedText(int entry) {
        skipWhitespace();
        int width = widthOf(entry);
        int most = width >= 1 && width <= TEXT_CHARS ? width : TEXT_CHARS;
        int taken = 0;
        scanValue = 0;
        while (taken < most && scanPos < inputLength) {
            char c = input[scanPos];
            if (c < 1 || c > 255 || isWhitespace(c)) {
                break;
            }
            scanValue += ((long) c) << (8 * taken);
            taken++;
            scanPos++;
        }
        return taken > 0;
    }

    private boolean scanNumber(int entry) {
        skipWhitespace();
        int width = widthOf(entry);
        budget = width >= 1 ? width : SCAN_BUDGET;
        int conversion = conversionOf(entry);
        int base = baseOf(conversion);
        boolean negative = false;
        if (conversion == 'd') {
            negative = takeSign();
        } else if (base == 16) {
            takeHexPrefix();
        }
        if (!takeDigits(base)) {
            return false;
        }
        if (negative) {
            scanValue = -scanValue;
        }
        scanValue = fitted(entry, scanValue);
        return true;
    }

    /** Takes a sign if one stands here; answers whether it was a '-'. */
    private boolean takeSign() {
        if (scanPos >= inputLength || (input[scanPos] != '+' && input[scanPos] != '-')) {
            return false;
        }
        boolean negative = input[scanPos] == '-';
        scanPos++;
        budget--;
        return negative;
    }

    private void takeHexPrefix() {
        // Without a hex digit in reach behind it, the '0' is the number and the 'x' is not part of it.
        if (budget < 3 || scanPos + 2 >= inputLength || input[scanPos] != '0') {
            return;
        }
        char second = input[scanPos + 1];
        if ((second == 'x' || second == 'X') && digitValue(input[scanPos + 2]) < 16) {
            scanPos += 2;
            budget -= 2;
        }
    }

    /** Takes digits of the base into scanValue; answers whether there was one at least. */
    private boolean takeDigits(int base) {
        int start = scanPos;
        scanValue = 0;
        while (budget > 0 && scanPos < inputLength) {
            int digit = digitValue(input[scanPos]);
            if (digit >= base) {
                break;
            }
            scanValue = scanValue * base + digit;
            scanPos++;
            budget--;
        }
        return scanPos > start;
    }

    /** Answers 0..15 for a hex digit, and 16, which is a digit of no base here, for any other char. */
    private int digitValue(char c) {
        if (c >= '0' && c <= '9') {
            return c - '0';
        }
        if (c >= 'a' && c <= 'f') {
            return c - 'a' + 10;
        }
        if (c >= 'A' && c <= 'F') {
            return c - 'A' + 10;
        }
        return 16;
    }
}
