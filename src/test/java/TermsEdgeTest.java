/** The boundary cases of the section 'Terms', a test for each sentence that names one. */
public final class TermsEdgeTest {
    private static final int TRUNCATED = FormatScanner.ERR_TRUNCATED;
    private static final int BAD_CONV = FormatScanner.ERR_BAD_CONV;
    private static final int BAD_POS = FormatScanner.ERR_BAD_POS;
    private static final int BAD_WIDTH = FormatScanner.ERR_BAD_WIDTH;

    public static void main(String[] arguments) {
        whitespaceInTheFormat();
        whitespaceInTheInput();
        digitsInTheFormat();
        digitsInTheInput();
        runsAreMaximal();
        runsOverTheirBounds();
        runsOver1000();
        runsWithLeadingZeros();
        positionsNameSlots();
        formatPastItsLength();
        inputPastItsLength();
        Check.finish();
    }

    private static boolean isOneOf(String chars, int c) {
        return chars.indexOf(c) >= 0;
    }

    private static boolean isWhitespace(int c) {
        return isOneOf("\t\n\u000B\f\r ", c);
    }

    /** "Whitespace: the chars 9, 10, 11, 12, 13 and 32." */
    private static void whitespaceInTheFormat() {
        for (int c = 0; c <= Character.MAX_VALUE; c++) {
            if (c != '%') {
                Check.scans((char) c + "%c", " \tZ", isWhitespace(c) ? 1 : 0, isWhitespace(c) ? 1 : 0,
                    isWhitespace(c) ? 3 : 0, isWhitespace(c) ? 'Z' : 0);
            }
        }
    }

    /** The same sentence, where the whitespace stands in the input: before a number, and behind a text. */
    private static void whitespaceInTheInput() {
        for (int c = 0; c <= Character.MAX_VALUE; c++) {
            boolean skipped = isWhitespace(c);
            Check.scans("%o", (char) c + "7", skipped || isOneOf("01234567", c) ? 1 : 0,
                skipped || isOneOf("01234567", c) ? 1 : 0, skipped || isOneOf("01234567", c) ? 2 : 0,
                skipped ? 7 : isOneOf("01234567", c) ? (c - '0') * 8 + 7 : 0);
            boolean taken = !skipped && c >= 1 && c <= 255;
            Check.scans("%s", "a" + (char) c, 1, 1, taken ? 2 : 1, taken ? 'a' + c * 256 : 'a');
        }
    }

    /** "Digit: '0'..'9'." */
    private static void digitsInTheFormat() {
        for (int c = 0; c <= Character.MAX_VALUE; c++) {
            boolean one = isOneOf("0123456789.l$", c);
            boolean two = isOneOf("duxXocs", c);
            Check.compiles("%1" + (char) c + "d", one ? 1 : two ? 2 : BAD_CONV);
        }
    }

    /** "Hex digit: a digit, 'a'..'f' or 'A'..'F'." */
    private static void digitsInTheInput() {
        for (int c = 0; c <= Character.MAX_VALUE; c++) {
            int digit = "0123456789abcdef".indexOf(c);
            if (digit < 0) {
                digit = "0123456789ABCDEF".indexOf(c);
            }
            String[] directives = {"%x", "%X", "%u", "%d", "%o"};
            int[] bases = {16, 16, 10, 10, 8};
            for (int i = 0; i < directives.length; i++) {
                boolean taken = digit >= 0 && digit < bases[i];
                Check.scans(directives[i], "1" + (char) c, 1, 1, taken ? 2 : 1, taken ? bases[i] + digit : 1);
            }
            Check.scans("%x", "0x" + (char) c, 1, 1, digit >= 0 ? 3 : 1, digit >= 0 ? digit : 0);
        }
    }

    /** "A digit run is maximal: it takes all consecutive digits." */
    private static void runsAreMaximal() {
        Check.renders("%12d", " ".repeat(11) + "7", 7);
        Check.renders("%.12d", "0".repeat(11) + "7", 7);
        Check.renders("%1$12d", " ".repeat(11) + "7", 7);
        Check.compiles("%12$d", BAD_POS);
        Check.compiles("%1$*12$d", BAD_POS);
        Check.compiles("%1$.*12$d", BAD_POS);
        Check.compiles("%123d", BAD_WIDTH);
        Check.compiles("%.123d", BAD_WIDTH);
        Check.renders("%.3d4", "0074", 7);
    }

    /** The values just within and just outside the bounds that the directives set. */
    private static void runsOverTheirBounds() {
        for (int v = 0; v <= 1100; v++) {
            Check.compiles("%1$d%2$d%3$d%4$d%5$d%6$d%7$d%8$d%" + v + "$d", v >= 1 && v <= 8 ? 9 : BAD_POS);
            Check.compiles("%1$d%2$d%3$d%4$d%5$d%6$d%7$d%8$d%1$*" + v + "$d", v >= 1 && v <= 8 ? 9 : BAD_POS);
            Check.compiles("%1$d%2$d%3$d%4$d%5$d%6$d%7$d%8$d%1$.*" + v + "$d", v >= 1 && v <= 8 ? 9 : BAD_POS);
            Check.compiles("%" + v + "d", v <= 99 ? 1 : BAD_WIDTH);
            Check.compiles("%." + v + "d", v <= 99 ? 1 : BAD_WIDTH);
        }
    }

    /** "whenever v exceeds 1000, v is set to 1000": no run, however long, comes round to a small value. */
    private static void runsOver1000() {
        String[] runs = {"1000", "1001", "1008", "9999", "10001", "10008", "65537", "65544", "4294967297", "4294967304",
            "8589934593", "18446744073709551617", "36893488147419103233", "340282366920938463463374607431768211457"};
        for (String run : runs) {
            runIsTooLarge(run);
        }
        for (int length = 4; length <= 58; length++) {
            runIsTooLarge("1" + "0".repeat(length - 2) + "1");
            runIsTooLarge("9".repeat(length));
            runIsTooLarge("8".repeat(length));
        }
        Check.compiles("%" + "9".repeat(61) + "$d", BAD_POS);
        Check.compiles("%" + "9".repeat(62) + "d", BAD_WIDTH);
        Check.compiles("%" + "9".repeat(63), BAD_WIDTH);
        Check.compiles("%." + "9".repeat(61) + "d", BAD_WIDTH);
        Check.compiles("%." + "9".repeat(62), BAD_WIDTH);
    }

    private static void runIsTooLarge(String run) {
        Check.compiles("%" + run + "$d", BAD_POS);
        Check.compiles("%*" + run + "$d", BAD_POS);
        Check.compiles("%.*" + run + "$d", BAD_POS);
        Check.compiles("%" + run + "d", BAD_WIDTH);
        Check.compiles("%." + run + "d", BAD_WIDTH);
    }

    /** "Its value is found left to right by v = v*10 + digit from v = 0": leading zeros add nothing. */
    private static void runsWithLeadingZeros() {
        for (int zeros = 0; zeros <= 55; zeros++) {
            String run = "0".repeat(zeros);
            Check.renders("%" + run + "1$d", "7", 7);
            Check.renders("%1$*" + run + "1$d", "  3", 3);
            Check.renders("%1$.*" + run + "1$d", "003", 3);
            Check.renders("%." + run + "3d", "007", 7);
            Check.renders("%." + run + "12d", "0".repeat(11) + "7", 7);
            Check.compiles("%" + run + "0$d", BAD_POS);
            Check.compiles("%" + run + "9$d", BAD_POS);
            Check.compiles("%." + run + "99d", 1);
            Check.compiles("%." + run + "100d", BAD_WIDTH);
        }
    }

    /** "Slots are 0..7; position p names slot p-1." */
    private static void positionsNameSlots() {
        String all = "%1$.0s%2$.0s%3$.0s%4$.0s%5$.0s%6$.0s%7$.0s%8$.0s";
        for (int p = 1; p <= 8; p++) {
            Check.renders(all + "%" + p + "$d", "" + (10 + p), 11, 12, 13, 14, 15, 16, 17, 18);
            long[] args = new long[8];
            args[p - 1] = 3;
            Check.renders(all + "%" + p + "$*" + p + "$d", "  3", args);
            Check.renders(all + "%" + p + "$.*" + p + "$d", "003", args);
            Check.scans("%1$c%2$c%3$c%4$c%5$c%6$c%7$c%8$c%" + p + "$d", "        3", 9, 255, 9, slots(p, 3));
        }
        Check.renders("%d%d%d%d%d%d%d%d", "12345678", 1, 2, 3, 4, 5, 6, 7, 8);
    }

    private static long[] slots(int position, long value) {
        long[] results = new long[8];
        for (int slot = 0; slot < 8; slot++) {
            results[slot] = slot == position - 1 ? value : ' ';
        }
        return results;
    }

    /** "Any test that reads fmt[j] .. at or past that text's length fails": not even an older char counts there. */
    private static void formatPastItsLength() {
        formatCut("%%", "%", TRUNCATED);
        formatCut("%d", "%", TRUNCATED);
        formatCut("%1$d", "%1", TRUNCATED);
        formatCut("%9$d", "%9", TRUNCATED);
        formatCut("%1$d", "%1$", TRUNCATED);
        formatCut("%10d", "%1", TRUNCATED);
        formatCut("%100d", "%10", TRUNCATED);
        formatCut("%100d", "%100", BAD_WIDTH);
        formatCut("%-d", "%-", TRUNCATED);
        formatCut("%0d", "%0", TRUNCATED);
        formatCut("%0$d", "%0", TRUNCATED);
        formatCut("%*d", "%*", TRUNCATED);
        formatCut("%*9$d", "%*", TRUNCATED);
        formatCut("%*9$d", "%*9", BAD_CONV);
        formatCut("%*1$d", "%*1$", TRUNCATED);
        formatCut("%.d", "%.", TRUNCATED);
        formatCut("%.100d", "%.10", TRUNCATED);
        formatCut("%.100d", "%.100", BAD_WIDTH);
        formatCut("%.*9$d", "%.*", TRUNCATED);
        formatCut("%.*9$d", "%.*9", BAD_CONV);
        formatCut("%.*1$d", "%.*1$", TRUNCATED);
        formatCut("%ld", "%l", TRUNCATED);
        formatCut("%ls", "%l", TRUNCATED);
        formatCut("a%d", "a", 1);
    }

    private static void formatCut(String older, String cut, int want) {
        FormatScanner x = Check.with(older).format(cut).x;
        Check.due("compile of '" + cut + "' where '" + older + "' was", x.compile(), want);
        String full = "b".repeat(64 - cut.length()) + cut;
        Check.compiles(full, want);
        Check.due("compile of '" + full + "' on a used object", Check.with(older.repeat(9)).format(full).x.compile(), want);
    }

    /** "Any test that reads .. in[pos] at or past that text's length fails": not even an older char counts there. */
    private static void inputPastItsLength() {
        inputCut(" %c", "a", "", 0, 0, 0);
        inputCut(" %d", "12", "", 0, 0, 0);
        inputCut(" %d", "12", "1", 1, 1, 1);
        inputCut(" %d", "-1", "-", 0, 0, 0);
        inputCut(" %d", "+1", "+", 0, 0, 0);
        inputCut(" %u", "12", "1", 1, 1, 1);
        inputCut(" %o", "12", "1", 1, 1, 1);
        inputCut(" %x", "12", "1", 1, 1, 1);
        inputCut(" %x", "0x1", "0x", 1, 1, 0);
        inputCut(" %x", "0x1", "0", 1, 1, 0);
        inputCut(" %X", "0X1", "0X", 1, 1, 0);
        inputCut(" %s", "ab", "a", 1, 1, 'a');
        inputCut(" %s", "ab", "", 0, 0, 0);
        inputCut(" ab", "ab", "a", 0, 1, 0);
        inputCut(" ab", "ab", "", 0, 0, 0);
        inputCut(" a ", "a  ", "a", 0, 1, 0);
    }

    private static void inputCut(String format, String older, String cut, int count, int end, long result) {
        String call = "scan of '" + cut + "' by '" + format + "'";
        Check reused = Check.fresh(16).compiled(format).input(older).input(cut);
        reused.scanIs(call + " where '" + older + "' was", count, count, end, result);
        int room = 256 - cut.length();
        Check full = Check.fresh(16).compiled(format).input(" ".repeat(room) + cut);
        full.scanIs(call + " at the end of 256 chars", count, count, room + end, result);
    }
}
