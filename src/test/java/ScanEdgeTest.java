/** The boundary cases of the promises 13 and 14, a test for each sentence that names one. */
public final class ScanEdgeTest {
    private static final int BAD_WIDTH = FormatScanner.ERR_BAD_WIDTH;
    private static final int NOT_COMPILED = FormatScanner.ERR_NOT_COMPILED;
    private static final long LOW_32_BITS = 0xFFFFFFFFL;
    private static final long ABCDEFGH = 0x6867666564636261L;

    public static void main(String[] arguments) {
        refusalsInTheirOrder();
        refusalsChangeNothing();
        badStars();
        goodStars();
        everyScanStartsAnew();
        emptyTable();
        whitespaceInALiteral();
        literalThatFails();
        literalAtTheEnd();
        charTakesAnything();
        charAtTheEnd();
        charHasNoBudget();
        whitespaceBeforeAConversion();
        whitespaceUsesNoBudget();
        textBudget();
        numberBudget();
        budgetOf1000();
        signUsesTheBudget();
        oneSign();
        noSignBeforeUnsigned();
        octalDigits();
        hexPrefixNeedsABudgetOf3();
        hexPrefixNeedsADigit();
        hexPrefixOnce();
        signedWrap();
        unsignedWrap();
        narrowing();
        noDigit();
        textChars();
        textsOfEveryLength();
        laterOneOverwrites();
        failureEndsTheScan();
        endOfTheInput();
        restOfTheInput();
        fullInput();
        scannedOutsideTheSlots();
        maskOfTheLastScan();
        endBeforeAnyScan();
        Check.finish();
    }

    /** "Tests in this order": not compiled, then a bad star value; then the input is read. */
    private static void refusalsInTheirOrder() {
        Check check = Check.fresh(16).format("y%*d").args(100).input("x5");
        Check.due("scan if nothing is good", check.x.scan(), NOT_COMPILED);
        check.x.compile();
        Check.due("scan with a bad star that the scan would not reach", check.x.scan(), BAD_WIDTH);
        check.x.setArg(0, 99);
        Check.due("scan if the star is good", check.x.scan(), 0);
        check.input("y5");
        Check.due("scan if all is good", check.x.scan(), 1);
    }

    /** "each refusal changes nothing": the results of the last scan stay. */
    private static void refusalsChangeNothing() {
        for (String format : new String[] {"%*d", "%.*d", "x%*.*s", "%d%", "%1$d%3$d"}) {
            Part.allKept("the refused scan by '" + format + "'", () -> {
                Check check = Check.fresh(16).compiled("<%d>").args(5, 6, 7).input("<8>9");
                check.x.render();
                check.x.scan();
                return check.args(100, 100).compiled(format);
            }, x -> Check.due("scan by '" + format + "' is refused", x.scan() < 0, true));
        }
    }

    /** "A bad star value (as in Promise 8): ERR_BAD_WIDTH", of a precision star too, though P is not used. */
    private static void badStars() {
        for (char c : "duxXocs".toCharArray()) {
            for (long star : new long[] {100, -100, 101, Integer.MAX_VALUE, Integer.MIN_VALUE, (1L << 32) + 100}) {
                scanIsRefused("%*" + c, star);
            }
            for (long star : new long[] {100, 101, Integer.MAX_VALUE, (1L << 32) + 100}) {
                scanIsRefused("%.*" + c, star);
            }
        }
        Check last = Check.fresh(16).compiled("%*.*u%*.*u%*u").args(1, 1, 0, 1, 1, 0, 100);
        Check.due("scan with a bad last star", last.x.scan(), BAD_WIDTH);
    }

    private static void scanIsRefused(String format, long star) {
        Check check = Check.fresh(16).compiled(format).args(star).input("7");
        Check.due("scan by '" + format + "', star " + star, check.x.scan(), BAD_WIDTH);
    }

    /** "W comes from the width or star as above": every good value, the negative ones as their opposite. */
    private static void goodStars() {
        String digits = "1".repeat(120);
        for (int star = -99; star <= 99; star++) {
            int taken = star == 0 ? 120 : Math.abs(star);
            long value = new java.math.BigInteger("1".repeat(taken)).longValue();
            Check check = Check.fresh(16).compiled("%*lu").args(star).input(digits);
            check.scanIs("scan, star " + star, 1, 2, taken, 0, value);
            check.args(star + (1L << 32)).scanIs("scan, star 2^32 + " + star, 1, 2, taken, 0, value);
        }
        for (long star : new long[] {99, 1, 0, -1, -100, Integer.MIN_VALUE}) {
            Check check = Check.fresh(16).compiled("%.*lu").args(star).input("12345");
            check.scanIs("scan, precision star " + star, 1, 2, 5, 0, 12345);
        }
    }

    /** "start with pos = 0, res all 0, mask 0 and count 0" */
    private static void everyScanStartsAnew() {
        Check check = Check.fresh(16).compiled("%d%d%d%d%d%d%d%d").input("1 2 3 4 5 6 7 8");
        check.scanIs("the first scan", 8, 255, 15, 1, 2, 3, 4, 5, 6, 7, 8);
        check.scanIs("the same scan again", 8, 255, 15, 1, 2, 3, 4, 5, 6, 7, 8);
        check.input("9 8").scanIs("a scan of less", 2, 3, 3, 9, 8);
        check.input("x").scanIs("a scan of nothing", 0, 0, 0);
    }

    /** The same, by a table of no entry. */
    private static void emptyTable() {
        Check check = Check.fresh(16).compiled("%d%d").input("1 2");
        check.x.scan();
        check.compiled("").scanIs("scan by an empty table", 0, 0, 0);
    }

    /** "a whitespace char moves pos past all whitespace (zero or more chars)" */
    private static void whitespaceInALiteral() {
        Check.scans(" ", "", 0, 0, 0);
        Check.scans(" ", "x", 0, 0, 0);
        Check.scans(" ", " ", 0, 0, 1);
        Check.scans(" ", "\t\n\u000B\f\r x", 0, 0, 6);
        Check.scans("\n", " ", 0, 0, 1);
        Check.scans("    ", " ", 0, 0, 1);
        Check.scans(" \t", "  \t\t  ", 0, 0, 6);
        Check.scans("a b", "ab", 0, 0, 2);
        Check.scans("a b", "a \r\n b", 0, 0, 6);
        Check.scans(" ", " ".repeat(256), 0, 0, 256);
        Check.scans("%c %c", "ab", 2, 3, 2, 'a', 'b');
    }

    /** "Any other char must equal in[pos] .. otherwise this is a failure and pos stays where it is." */
    private static void literalThatFails() {
        Check.scans("abc%c", "xbcd", 0, 0, 0);
        Check.scans("abc%c", "axcd", 0, 0, 1);
        Check.scans("abc%c", "abxd", 0, 0, 2);
        Check.scans("a b%c", "a   c", 0, 0, 4);
        Check.scans(" b%c", "  c", 0, 0, 2);
        Check.scans("%d,%d", "5;6", 1, 1, 1, 5);
        Check.scans("%d ,%d", "5  ;6", 1, 1, 3, 5);
        Check.scans("%%%c", "x", 0, 0, 0);
        Check.scans("%%%c", "%x", 1, 1, 2, 'x');
        Check.scans("a", "A", 0, 0, 0);
        Check.scans("\u0161", "a", 0, 0, 0);
        Check.scans("a", "\u0161", 0, 0, 0);
    }

    /** The same, at the end of the input. */
    private static void literalAtTheEnd() {
        Check.scans("a", "", 0, 0, 0);
        Check.scans("ab", "a", 0, 0, 1);
        Check.scans("\0", "", 0, 0, 0);
        Check.scans("a\0", "a", 0, 0, 1);
        Check.scans("\0a", "\0a", 0, 0, 2);
        Check.scans(" a", "  ", 0, 0, 2);
        Check.scans("%dx", "5", 1, 1, 1, 5);
    }

    /** "c: in[pos] is the value and pos += 1": whitespace is a char as any other. */
    private static void charTakesAnything() {
        for (char c : new char[] {0, 9, 13, 32, '%', 255, 256, 0x8000, 0xFFFF}) {
            Check.scans("%c", c + "x", 1, 1, 1, c);
            Check.scans("%c%c", "" + c + c, 2, 3, 2, c, c);
        }
        Check.scans("%c%d", " \t7", 2, 3, 3, ' ', 7);
    }

    /** "it fails at the end of in" */
    private static void charAtTheEnd() {
        Check.scans("%c", "", 0, 0, 0);
        Check.scans("a%c", "a", 0, 0, 1);
        Check.scans("%c%c%c", "ab", 2, 3, 2, 'a', 'b');
        Check.scans(" %c", "   ", 0, 0, 3);
    }

    /** The budget is for the other conversions: c takes one char, whatever its width. */
    private static void charHasNoBudget() {
        Check.scans("%0c%1c%2c%99c", "abcd", 4, 15, 4, 'a', 'b', 'c', 'd');
        for (int star : new int[] {-99, -1, 0, 1, 2, 99}) {
            Check.fresh(16).compiled("%*c").args(star).input("ab").scanIs("scan of c, star " + star, 1, 2, 1, 0, 'a');
        }
    }

    /** "d, u, x, X, o and s first move pos past all whitespace", and a failure puts it back: "pos = start". */
    private static void whitespaceBeforeAConversion() {
        for (char c : "duxXos".toCharArray()) {
            long value = c == 's' ? '7' : 7;
            Check.scans("%" + c, "7", 1, 1, 1, value);
            Check.scans("%" + c, "\t\n\u000B\f\r 7", 1, 1, 7, value);
            Check.scans("%" + c, " ".repeat(255) + "7", 1, 1, 256, value);
            Check.scans("%" + c, " ".repeat(256), 0, 0, 0);
            Check.scans("a%" + c, "a  ", 0, 0, 1);
            Check.scans("a%" + c, "a  \u0100", 0, 0, 1);
            Check.scans("%d%" + c, "5  \u0100", 1, 1, 1, 5);
            Check.scans(" %" + c, "  \u0100", 0, 0, 2);
        }
    }

    /** "Every char taken from here on uses up one": the whitespace before does not. */
    private static void whitespaceUsesNoBudget() {
        for (char c : "duxXos".toCharArray()) {
            Check.scans("%1" + c, "   77", 1, 1, 4, c == 's' ? '7' : 7);
        }
    }

    /** "for s, W if 1 <= W <= 8, else 8" */
    private static void textBudget() {
        String text = "abcdefghij";
        Check.scans("%s", text, 1, 1, 8, ABCDEFGH);
        for (int width = 1; width <= 99; width++) {
            int taken = Math.min(width, 8);
            Check.scans("%" + width + "s", text, 1, 1, taken, packed(text.substring(0, taken)));
        }
        for (int star = -99; star <= 99; star++) {
            int taken = star == 0 ? 8 : Math.min(Math.abs(star), 8);
            Check check = Check.fresh(16).compiled("%*s").args(star).input(text);
            check.scanIs("scan of s, star " + star, 1, 2, taken, 0, packed(text.substring(0, taken)));
        }
        Check.scans("%.1s", text, 1, 1, 8, ABCDEFGH);
        Check.scans("%s%s", text, 2, 3, 10, ABCDEFGH, packed("ij"));
    }

    private static long packed(String text) {
        long value = 0;
        for (int k = 0; k < text.length(); k++) {
            value |= (long) text.charAt(k) << (8 * k);
        }
        return value;
    }

    /** "for the others, W if W >= 1", "no char is taken once the budget is 0" */
    private static void numberBudget() {
        String digits = "1".repeat(120);
        for (int width = 1; width <= 99; width++) {
            String taken = "1".repeat(width);
            long decimal = new java.math.BigInteger(taken).longValue();
            Check.scans("%" + width + "lu", digits, 1, 1, width, decimal);
            Check.scans("%" + width + "ld", digits, 1, 1, width, decimal);
            Check.scans("%" + width + "lx", digits, 1, 1, width, new java.math.BigInteger(taken, 16).longValue());
            Check.scans("%" + width + "lX", digits, 1, 1, width, new java.math.BigInteger(taken, 16).longValue());
            Check.scans("%" + width + "lo", digits, 1, 1, width, new java.math.BigInteger(taken, 8).longValue());
        }
        Check.scans("%1d%1d%1d", "123", 3, 7, 3, 1, 2, 3);
    }

    /** "else 1000": more than the input can hold, so it never ends a number. */
    private static void budgetOf1000() {
        for (char c : "duxXo".toCharArray()) {
            Check.scans("%" + c, "0".repeat(255) + "7", 1, 1, 256, 7);
            Check.scans("%0" + c, "0".repeat(255) + "7", 1, 1, 256, 7);
        }
        Check.scans("%d", "-" + "0".repeat(254) + "7", 1, 1, 256, -7);
        Check.scans("%x", "0x" + "0".repeat(253) + "f", 1, 1, 256, 15);
    }

    /** "if in[pos] is '+' or '-', it is taken", and it uses up one of the budget. */
    private static void signUsesTheBudget() {
        Check.scans("%1d", "-5", 0, 0, 0);
        Check.scans("%1d", "+5", 0, 0, 0);
        Check.scans("a%1d", "a -5", 0, 0, 1);
        Check.scans("%2d", "-57", 1, 1, 2, -5);
        Check.scans("%2d", "+57", 1, 1, 2, 5);
        Check.scans("%3d%d", "-578", 2, 3, 4, -57, 8);
        Check.fresh(16).compiled("%*d").args(-1).input("-5").scanIs("scan of a sign, star -1", 0, 0, 0);
    }

    /** The same: one sign alone, with a digit at once behind it. */
    private static void oneSign() {
        for (String text : new String[] {"+", "-", "++5", "--5", "+-5", "-+5", "- 5", "+ 5", "-x", "-,5"}) {
            Check.scans("%d", text, 0, 0, 0);
            Check.scans("%d%c", text, 0, 0, 0);
        }
        Check.scans("%d", "5-", 1, 1, 1, 5);
        Check.scans("%d%d", "5-6", 2, 3, 3, 5, -6);
        Check.scans("%d", "-0", 1, 1, 2, 0);
        Check.scans("%d", ",5", 0, 0, 0);
        Check.scans("%d", ".5", 0, 0, 0);
    }

    /** "u: digits.": a sign is none, nor is it for x, X and o. */
    private static void noSignBeforeUnsigned() {
        for (char c : "uxXo".toCharArray()) {
            Check.scans("%" + c, "+5", 0, 0, 0);
            Check.scans("%" + c, "-5", 0, 0, 0);
            Check.scans("%" + c, "5-", 1, 1, 1, 5);
        }
    }

    /** "o: digits '0'..'7'." */
    private static void octalDigits() {
        Check.scans("%o", "8", 0, 0, 0);
        Check.scans("%o", "9", 0, 0, 0);
        Check.scans("%o", "778", 1, 1, 2, 63);
        Check.scans("%o", "0x7", 1, 1, 1, 0);
        Check.scans("%o", "07", 1, 1, 2, 7);
        Check.scans("%u", "0x7", 1, 1, 1, 0);
        Check.scans("%d", "0x7", 1, 1, 1, 0);
        Check.scans("%u", "7a", 1, 1, 1, 7);
    }

    /** "if the budget is at least 3 .. those two chars are taken", and they use up two. */
    private static void hexPrefixNeedsABudgetOf3() {
        for (char c : "xX".toCharArray()) {
            Check.scans("%1" + c, "0x12", 1, 1, 1, 0);
            Check.scans("%2" + c, "0x12", 1, 1, 1, 0);
            Check.scans("%3" + c, "0x12", 1, 1, 3, 1);
            Check.scans("%4" + c, "0x123", 1, 1, 4, 0x12);
            Check.scans("%3" + c, "   0X12", 1, 1, 6, 1);
        }
        for (int star : new int[] {-3, 3}) {
            Check.fresh(16).compiled("%*x").args(star).input("0x12").scanIs("scan of 0x12, star " + star, 1, 2, 3, 0, 1);
        }
        Check.fresh(16).compiled("%*x").args(2).input("0x12").scanIs("scan of 0x12, star 2", 1, 2, 1, 0, 0);
        Check.fresh(16).compiled("%*x").args(0).input("0x12").scanIs("scan of 0x12, star 0", 1, 2, 4, 0, 0x12);
    }

    /** "and in[pos+2] is a hex digit": else the '0' is the number, and the scan stops at the 'x'. */
    private static void hexPrefixNeedsADigit() {
        for (String text : new String[] {"0x", "0X", "0xg", "0x ", "0x-1", "0xx1", "0x\u0131"}) {
            Check.scans("%x", text, 1, 1, 1, 0);
            Check.scans("%X", text, 1, 1, 1, 0);
        }
        Check.scans("%x%c", "0x", 2, 3, 2, 0, 'x');
        Check.scans("%x", " ".repeat(254) + "0x", 1, 1, 255, 0);
        Check.scans("%x", " ".repeat(255) + "0", 1, 1, 256, 0);
        Check.scans("%x", " ".repeat(253) + "0xf", 1, 1, 256, 15);
        for (char c : "0123456789abcdefABCDEF".toCharArray()) {
            Check.scans("%x", "0x" + c, 1, 1, 3, Character.digit(c, 16));
            Check.scans("%X", "0X" + c, 1, 1, 3, Character.digit(c, 16));
        }
    }

    /** The same: the prefix stands first, and once. */
    private static void hexPrefixOnce() {
        Check.scans("%x", "x1", 0, 0, 0);
        Check.scans("%x", "1x1", 1, 1, 1, 1);
        Check.scans("%x", "00x1", 1, 1, 2, 0);
        Check.scans("%x", "0x0x1", 1, 1, 3, 0);
        Check.scans("%x", "Ox1", 0, 0, 0);
        Check.scans("%x", "ax1", 1, 1, 1, 10);
    }

    /** "64-bit, wrapping as Java long arithmetic does" and "v = -v (wrapping)" */
    private static void signedWrap() {
        scansWrapped("%ld", "9223372036854775807", Long.MAX_VALUE);
        scansWrapped("%ld", "9223372036854775808", Long.MIN_VALUE);
        scansWrapped("%ld", "9223372036854775809", Long.MIN_VALUE + 1);
        scansWrapped("%ld", "-9223372036854775807", Long.MIN_VALUE + 1);
        scansWrapped("%ld", "-9223372036854775808", Long.MIN_VALUE);
        scansWrapped("%ld", "-9223372036854775809", Long.MAX_VALUE);
        scansWrapped("%ld", "18446744073709551615", -1);
        scansWrapped("%ld", "-18446744073709551615", 1);
        scansWrapped("%ld", "18446744073709551616", 0);
        scansWrapped("%ld", "-18446744073709551617", -1);
        String nines = "9".repeat(250);
        scansWrapped("%ld", nines, new java.math.BigInteger(nines).longValue());
    }

    private static void scansWrapped(String format, String text, long value) {
        Check.scans(format, text, 1, 1, text.length(), value);
    }

    /** The same for the bases of the unsigned conversions. */
    private static void unsignedWrap() {
        scansWrapped("%lu", "18446744073709551615", -1);
        scansWrapped("%lu", "18446744073709551616", 0);
        scansWrapped("%lu", "18446744073709551617", 1);
        scansWrapped("%lx", "ffffffffffffffff", -1);
        scansWrapped("%lx", "10000000000000000", 0);
        scansWrapped("%lX", "0xfffffffffffffffff", -1);
        scansWrapped("%lX", "123456789abcdef01", 0x23456789ABCDEF01L);
        scansWrapped("%lo", "1777777777777777777777", -1);
        scansWrapped("%lo", "2000000000000000000000", 0);
        scansWrapped("%lo", "2000000000000000000007", 7);
    }

    /** "The value is v if long; otherwise (long)(int) v for d, and v & 0xFFFFFFFFL for u, x, X and o." */
    private static void narrowing() {
        scansWrapped("%d", "2147483647", Integer.MAX_VALUE);
        scansWrapped("%d", "2147483648", Integer.MIN_VALUE);
        scansWrapped("%d", "-2147483648", Integer.MIN_VALUE);
        scansWrapped("%d", "-2147483649", Integer.MAX_VALUE);
        scansWrapped("%d", "4294967295", -1);
        scansWrapped("%d", "4294967296", 0);
        scansWrapped("%d", "18446744073709551615", -1);
        scansWrapped("%d", "9223372036854775808", 0);
        scansWrapped("%u", "4294967295", LOW_32_BITS);
        scansWrapped("%u", "4294967296", 0);
        scansWrapped("%u", "2147483648", 1L << 31);
        scansWrapped("%u", "18446744073709551615", LOW_32_BITS);
        scansWrapped("%x", "ffffffff", LOW_32_BITS);
        scansWrapped("%x", "0x100000000", 0);
        scansWrapped("%X", "ffffffffffffffff", LOW_32_BITS);
        scansWrapped("%o", "37777777777", LOW_32_BITS);
        scansWrapped("%o", "40000000000", 0);
        scansWrapped("%ld", "4294967296", 1L << 32);
        scansWrapped("%lu", "4294967296", 1L << 32);
        scansWrapped("%lx", "100000000", 1L << 32);
        scansWrapped("%lo", "40000000000", 1L << 32);
    }

    /** "If no digit was taken: failure, and pos = start." */
    private static void noDigit() {
        for (char c : "duxXo".toCharArray()) {
            for (String text : new String[] {"", " ", "g", " \t g", "/", ":", "@", "G", "`", "\0", "\uFF11", "$"}) {
                Check.scans("%" + c, text, 0, 0, 0);
                Check.scans("a%l" + c + "%d", "a" + text, 0, 0, 1);
            }
            Check.scans("%" + c, "0", 1, 1, 1, 0);
        }
        Check.scans("%d", "  -", 0, 0, 0);
        Check.scans("a%d", "a  +", 0, 0, 1);
    }

    /** "s: takes chars that are not whitespace and are in 1..255. If none are taken: failure, and pos = start." */
    private static void textChars() {
        for (int c = 0; c <= 700; c++) {
            boolean taken = c >= 1 && c <= 255 && c != 32 && (c < 9 || c > 13);
            boolean skipped = c == 32 || (c >= 9 && c <= 13);
            Check.scans("%s", "" + (char) c, taken ? 1 : 0, taken ? 1 : 0, taken ? 1 : 0, taken ? c : 0);
            Check.scans("a%s", "a " + (char) c + "b", taken || skipped ? 1 : 0, taken || skipped ? 1 : 0,
                taken || skipped ? 4 : 1, taken ? c + ('b' << 8) : skipped ? 'b' : 0);
        }
        Check.scans("%s", "\uFFFF", 0, 0, 0);
        Check.scans("%s", "a\uFF41", 1, 1, 1, 'a');
        Check.scans("%s", "", 0, 0, 0);
        Check.scans("%s", " \t ", 0, 0, 0);
    }

    /** "The value is the sum over the taken chars c_k, k = 0, 1, .., of ((long) c_k) << 8k." */
    private static void textsOfEveryLength() {
        String high = "\u00F1\u00F2\u00F3\u00F4\u00F5\u00F6\u00F7\u00F8\u00F9";
        for (int length = 1; length <= 8; length++) {
            Check.scans("%s", high.substring(0, length), 1, 1, length, packed(high.substring(0, length)));
            Check.scans("%s", high.substring(0, length) + " x", 1, 1, length, packed(high.substring(0, length)));
        }
        Check.scans("%s", high, 1, 1, 8, 0xF8F7F6F5F4F3F2F1L);
        Check.scans("%s", "\u00FF".repeat(8), 1, 1, 8, -1);
    }

    /** "res[value slot] = value (a later one overwrites), bit (value slot) of mask is set, and count += 1" */
    private static void laterOneOverwrites() {
        Check.scans("%1$d%1$d%1$d", "5 6 7", 3, 1, 5, 7);
        Check.scans("%1$d%1$d%1$d", "5 6 x", 2, 1, 3, 6);
        Check.scans("%2$d%1$d%2$d", "5 6 7", 3, 3, 5, 6, 7);
        Check.scans("%1$d%1$u", "5 0", 2, 1, 3, 0);
        Check.scans("%1$d".repeat(16), "1 ".repeat(15) + "9", 16, 1, 31, 9);
        Check.scans("%8$d%7$d%6$d%5$d%4$d%3$d%2$d%1$d", "1 2 3 4 5 6 7 8", 8, 255, 15, 8, 7, 6, 5, 4, 3, 2, 1);
        Check.scans("%8$c%7$d%6$d%5$d%4$d%3$d%2$d%1$d", "a", 1, 128, 1, 0, 0, 0, 0, 0, 0, 0, 'a');
    }

    /** "The entries are handled in order, until the first failure": nothing behind it is read. */
    private static void failureEndsTheScan() {
        Check.scans("%d%d%d", "1 x 3", 1, 1, 1, 1);
        Check.scans("%d x%d%d", "1 y 3", 1, 1, 2, 1);
        Check.scans("%d%d%c", "1 x", 1, 1, 1, 1);
        Check.scans("x%c", "y", 0, 0, 0);
        Check.scans("%u%s%c", "-", 0, 0, 0);
        Check.scans("%2$d%1$d", "5 x", 1, 2, 1, 0, 5);
    }

    /** "Finally end = pos.": the end of the input reached, after a success and after a failure. */
    private static void endOfTheInput() {
        Check.scans("%d%d", "5", 1, 1, 1, 5);
        Check.scans("%d%d", "5  ", 1, 1, 1, 5);
        Check.scans("%d %d", "5  ", 1, 1, 3, 5);
        Check.scans("%d%c", "5", 1, 1, 1, 5);
        Check.scans("%d%s", "5", 1, 1, 1, 5);
        Check.scans("%d%x", "5", 1, 1, 1, 5);
        Check.scans("%da", "5", 1, 1, 1, 5);
        Check.scans("%d ", "5", 1, 1, 1, 5);
        Check.scans("", "abc", 0, 0, 0);
    }

    /** The same: what stands behind the last entry is left. */
    private static void restOfTheInput() {
        Check.scans("%d", "5 6", 1, 1, 1, 5);
        Check.scans("%d", "5   ", 1, 1, 1, 5);
        Check.scans("%d ", "5   x", 1, 1, 4, 5);
        Check.scans("a", "ab", 0, 0, 1);
        Check.scans("%c", "ab", 1, 1, 1, 'a');
    }

    /** The same, at the last char of a full input. */
    private static void fullInput() {
        String spaces = " ".repeat(255);
        Check.scans(" %c", spaces + "a", 1, 1, 256, 'a');
        Check.scans(" %c%c", spaces + "a", 1, 1, 256, 'a');
        Check.scans("%d%d", spaces + "7", 1, 1, 256, 7);
        Check.scans("%d", spaces + "-", 0, 0, 0);
        Check.scans(" %d", spaces + "-", 0, 0, 255);
        Check.scans(" a", spaces + "a", 0, 0, 256);
        Check.scans(" ab", spaces + "a", 0, 0, 256);
        Check.scans("%s%s", spaces + "a", 1, 1, 256, 'a');
    }

    /** "scanned(slot) answers res[slot] if slot is in 0..7, else 0." */
    private static void scannedOutsideTheSlots() {
        Check check = Check.fresh(16).compiled("%d%d%d%d%d%d%d%d").input("1 2 3 4 5 6 7 8");
        check.x.scan();
        for (int slot = -300; slot <= 300; slot++) {
            Check.due("scanned(" + slot + ")", check.x.scanned(slot), slot >= 0 && slot < 8 ? slot + 1L : 0L);
        }
        for (int slot : new int[] {65536, -65536, Integer.MIN_VALUE, Integer.MIN_VALUE + 1, Integer.MAX_VALUE}) {
            Check.due("scanned(" + slot + ")", check.x.scanned(slot), 0L);
        }
    }

    /** "bit k is set if the last scan assigned slot k": that scan alone, and a value of 0 too. */
    private static void maskOfTheLastScan() {
        for (int p = 1; p <= 8; p++) {
            StringBuilder format = new StringBuilder("%" + p + "$d");
            for (int other = 1; other <= 8; other++) {
                format.append("%" + other + "$c");
            }
            Check check = Check.fresh(16).compiled("%d%d%d%d%d%d%d%d").input("1 2 3 4 5 6 7 8");
            check.x.scan();
            check.compiled(format.toString()).input("0");
            check.scanIs("scan of slot " + (p - 1) + " alone", 1, 1 << (p - 1), 1);
        }
    }

    /** "the input index where the last scan stopped (0 before any scan)" */
    private static void endBeforeAnyScan() {
        Check check = Check.fresh(16).compiled("%d").input("123");
        Check.due("scanEnd before any scan", check.x.scanEnd(), 0);
        check.x.scan();
        Check.due("scanEnd after a scan", check.x.scanEnd(), 3);
        check.input("1");
        Check.due("scanEnd after another input", check.x.scanEnd(), 3);
        check.compiled("%");
        check.x.scan();
        Check.due("scanEnd after a refused scan", check.x.scanEnd(), 3);
        check.compiled("%d");
        check.x.scan();
        Check.due("scanEnd after the next scan", check.x.scanEnd(), 1);
    }
}
