/** The boundary cases of the promises 7, 8 and 9, a test for each sentence that names one. */
public final class RenderEdgeTest {
    private static final long LEAST = Long.MIN_VALUE;
    private static final long GREATEST = Long.MAX_VALUE;
    private static final long TWO_TO_32 = 1L << 32;
    private static final int BAD_WIDTH = FormatScanner.ERR_BAD_WIDTH;
    private static final int OVERFLOW = FormatScanner.ERR_OVERFLOW;
    private static final int NOT_COMPILED = FormatScanner.ERR_NOT_COMPILED;

    public static void main(String[] arguments) {
        setArgOutsideTheSlots();
        setArgTakesAnyLong();
        setArgKeepsCompiled();
        refusalsInTheirOrder();
        refusalsChangeNothing();
        textOfJustCapChars();
        textFarOverCap();
        textOfNoChar();
        starsAreNarrowed();
        widthStarBounds();
        negativeWidthStar();
        precisionStarBounds();
        negativePrecisionStar();
        everyStarIsChecked();
        signedValues();
        signParts();
        unsignedValues();
        noDigits();
        digitsUpToThePrecision();
        hexPrefixes();
        octalPrefix();
        zerosUpToTheWidth();
        zeroFlagWithoutEffect();
        chars();
        texts();
        textsUpToThePrecision();
        charsAndTextsIgnoreFlags();
        spacesUpToTheWidth();
        longestTexts();
        outCharOutsideTheText();
        outAfterAShorterText();
        Check.finish();
    }

    /** "If slot is outside 0..7: answers false and nothing changes." */
    private static void setArgOutsideTheSlots() {
        int[] outside = {-1, -2, -8, -256, 8, 9, 15, 16, 256, 257, 65536, Integer.MIN_VALUE, Integer.MAX_VALUE};
        Check check = Check.fresh(16).args(1, 2, 3, 4, 5, 6, 7, 8);
        for (int slot : outside) {
            Check.due("setArg(" + slot + ")", check.x.setArg(slot, 99), false);
        }
        Check.due("the args after it", Part.ARGS.read(check), "1 2 3 4 5 6 7 8 ");
    }

    /** "Otherwise args[slot] = value and the answer is true." */
    private static void setArgTakesAnyLong() {
        long[] values = {0, 1, -1, LEAST, LEAST + 1, GREATEST, GREATEST - 1, TWO_TO_32, TWO_TO_32 - 1, -TWO_TO_32};
        for (int slot = 0; slot < 8; slot++) {
            for (long value : values) {
                Check check = Check.fresh(256).args(1, 2, 3, 4, 5, 6, 7, 8);
                Check.due("setArg(" + slot + ", " + value + ")", check.x.setArg(slot, value), true);
                StringBuilder want = new StringBuilder();
                for (int other = 0; other < 8; other++) {
                    want.append(other == slot ? value : other + 1).append(other < 7 ? " " : "");
                }
                check.compiled("%ld %ld %ld %ld %ld %ld %ld %ld").x.render();
                Check.due("args after setArg(" + slot + ", " + value + ")", check.out(), want.toString());
            }
        }
    }

    /** "the compiled state stays" */
    private static void setArgKeepsCompiled() {
        Check check = Check.fresh(16).compiled("%*d");
        check.x.setArg(0, 100);
        check.x.setArg(8, 100);
        Check.due("argCount after setArg", check.x.argCount(), 2);
        Check.due("entryKind after setArg", check.x.entryKind(0), 100);
        check.x.clearFormat();
        check.x.setArg(0, 5);
        Check.due("render after clearFormat and setArg", check.x.render(), NOT_COMPILED);
    }

    /** "Tests in this order": not compiled, then a bad star value, then the length. */
    private static void refusalsInTheirOrder() {
        Check check = Check.fresh(16).format("%99d%*d").args(1, 100, 2);
        Check.due("render if nothing is good", check.x.render(), NOT_COMPILED);
        check.x.compile();
        Check.due("render with a bad star and too long a text", check.x.render(), BAD_WIDTH);
        check.x.setArg(1, 99);
        Check.due("render of too long a text", check.x.render(), OVERFLOW);
        check.compiled("%9d%*d").args(1, 7, 2);
        Check.due("render if all is good", check.x.render(), 16);
    }

    /** "each refusal changes nothing" */
    private static void refusalsChangeNothing() {
        for (String format : new String[] {"%17d", "abcdefghijklmnopq", "%*d", "%.*d", "%d%", "%99d%99d%99d"}) {
            Part.allKept("the refused render of '" + format + "'", () -> {
                Check check = Check.fresh(16).compiled("<%d>").args(5, 6, 7).input("<8>");
                check.x.render();
                check.x.scan();
                return check.args(100).compiled(format);
            }, x -> Check.due("render of '" + format + "' is refused", x.render() < 0, true));
        }
    }

    /** "Whole text longer than cap: ERR_OVERFLOW", "the answer is its length (0..cap)" */
    private static void textOfJustCapChars() {
        for (int cap = 16; cap <= 99; cap++) {
            String[] formats = {"%" + cap + "d", "%-" + cap + "d", "%0" + cap + "d", "%." + cap + "d", "%." + (cap - 1) + "dx",
                "x%" + (cap - 1) + "d", "%" + (cap - 1) + "s%c", "%1$#." + (cap - 2) + "x", "%+." + (cap - 1) + "d"};
            for (String format : formats) {
                fits(cap, format);
            }
        }
        for (int cap = 16; cap <= 64; cap++) {
            fits(cap, "a".repeat(cap));
        }
        fits(198, "%99d%99d");
        fits(199, "%99d%099dx");
        fits(255, "%-99d%99d%.57d");
        fits(256, "%99d%99d%58d");
        fits(256, "%-99d%-99d%-58d");
        fits(256, "%099d%.99d%057dx");
    }

    /** A capacity of cap holds the text, and one less does not. */
    private static void fits(int cap, String format) {
        Check check = Check.fresh(cap).compiled(format).args('7', '7', '7');
        Check.due("render of '" + format + "', cap " + cap, check.x.render(), cap);
        Check.due("outLength of '" + format + "', cap " + cap, check.x.outLength(), cap);
        if (cap > 16) {
            check = Check.fresh(cap - 1).compiled(format).args('7', '7', '7');
            Check.due("render of '" + format + "', cap " + (cap - 1), check.x.render(), OVERFLOW);
            Check.due("outLength of '" + format + "', cap " + (cap - 1), check.x.outLength(), 0);
        }
        check = Check.fresh(cap).compiled(format.length() < 64 ? format + "y" : format).args('7', '7', '7');
        Check.due("render of '" + format + "y', cap " + cap, check.x.render(), format.length() < 64 ? OVERFLOW : 64);
    }

    /** The same for texts far longer than any capacity, up to the longest that a format can make. */
    private static void textFarOverCap() {
        for (int cap : new int[] {16, 255, 256}) {
            Check check = Check.fresh(cap).compiled("abc");
            check.x.render();
            for (String format : new String[] {"%99d%99d%59d", "%99d%99d%99d", "%99d".repeat(8), "%1$99d".repeat(10)}) {
                check.compiled(format);
                Check.due("render of '" + format + "', cap " + cap, check.x.render(), OVERFLOW);
                Check.due("out after '" + format + "', cap " + cap, check.out(), "abc");
            }
        }
    }

    /** "Otherwise out = the entries rendered in order", where these make no char. */
    private static void textOfNoChar() {
        for (String format : new String[] {"", "%.0d", "%s", "%.0s", "%.x%.X%.u%.o%.ld"}) {
            Check check = Check.fresh(16).compiled("abc");
            check.x.render();
            check.compiled(format);
            Check.due("render of '" + format + "'", check.x.render(), 0);
            Check.due("outLength of '" + format + "'", check.x.outLength(), 0);
            Check.due("outChar(0) of '" + format + "'", check.x.outChar(0), (char) 0);
        }
    }

    /** "v = (int) args[slot of the star] (Java's narrowing, keeping the low 32 bits)" */
    private static void starsAreNarrowed() {
        for (long high : new long[] {0, TWO_TO_32, -TWO_TO_32, 5 * TWO_TO_32, LEAST, GREATEST - TWO_TO_32 + 1}) {
            Check.renders("%*d|", "  7|", high + 3, 7);
            Check.renders("%*d|", "7  |", high + (-3 & 0xFFFFFFFFL), 7);
            Check.renders("%.*d|", "007|", high + 3, 7);
            Check.renders("%.*d|", "7|", high + (-3 & 0xFFFFFFFFL), 7);
            Check.renders("%*d|", " ".repeat(98) + "7|", high + 99, 7);
            Check.renderFails("%*d|", BAD_WIDTH, high + 100, 7);
            Check.renderFails("%.*d|", BAD_WIDTH, high + 100, 7);
        }
        Check.renders("%*d|%.*d", "7|7", TWO_TO_32, 7, LEAST, 7);
        Check.renderFails("%*d", BAD_WIDTH, GREATEST - TWO_TO_32 / 2, 7);
        Check.renders("%*d|", "7|", GREATEST, 7);
    }

    /** "Width star: v < -99 or v > 99 is ERR_BAD_WIDTH .. otherwise W = v" */
    private static void widthStarBounds() {
        for (int v = -99; v <= 99; v++) {
            String spaces = " ".repeat(Math.max(0, Math.abs(v) - 1));
            Check.renders("%*d|", (v < 0 ? "7" + spaces : spaces + "7") + "|", v, 7);
            Check.renders("%*c|", (v < 0 ? "7" + spaces : spaces + "7") + "|", v, '7');
        }
        for (int v : new int[] {-100, 100, -101, 101, 1000, -1000, Integer.MIN_VALUE, Integer.MAX_VALUE, -Integer.MAX_VALUE}) {
            for (char c : "duxXocs".toCharArray()) {
                Check.renderFails("%*" + c, BAD_WIDTH, v, 7);
            }
        }
    }

    /** "v < 0 sets flag '-' and W = -v": so the flag '0' has no effect. */
    private static void negativeWidthStar() {
        Check.renders("%0*d|%0*d|", "00007|7    |", 5, 7, -5, 7);
        Check.renders("%-*d|%-*d|", "7    |7    |", 5, 7, -5, 7);
        Check.renders("%#0*x|%#0*x|", "0x007|0x7  |", 5, 7, -5, 7);
        Check.renders("%*s|%*s|", "    a|a    |", 5, 'a', -5, 'a');
        Check.renders("%2$0*1$d|%2$5d|", "7    |    7|", -5, 7);
        Check.renders("%0*d|", "-7   |", -5, -7);
    }

    /** "Precision star: v > 99 is ERR_BAD_WIDTH .. otherwise P = v" */
    private static void precisionStarBounds() {
        for (int v = 0; v <= 99; v++) {
            Check.renders("%.*d", "0".repeat(Math.max(0, v - 1)) + "7", v, 7);
            Check.renders("%.*d", "0".repeat(v), v, 0);
            Check.renders("%.*s", "abcdefgh".substring(0, Math.min(v, 8)), v, 0x6867666564636261L);
        }
        for (int v : new int[] {100, 101, 1000, Integer.MAX_VALUE}) {
            for (char c : "duxXocs".toCharArray()) {
                Check.renderFails("%.*" + c, BAD_WIDTH, v, 7);
            }
        }
    }

    /** "v < 0 means no precision", however far below 0. */
    private static void negativePrecisionStar() {
        for (int v : new int[] {-1, -2, -99, -100, -101, -1000, Integer.MIN_VALUE}) {
            Check.renders("[%.*d]", "[0]", v, 0);
            Check.renders("%05.*d", "00007", v, 7);
            Check.renders("%.*s", "abcdefgh", v, 0x6867666564636261L);
            Check.renders("%#.*o", "0", v, 0);
        }
        Check.renders("%05.*d|%05.*d", "    7|00007", 0, 7, -1, 7);
    }

    /** "Stars are checked in table order, with the width star first in each directive": none is left out. */
    private static void everyStarIsChecked() {
        for (int star : new int[] {0, 1, 3, 4, 6}) {
            long[] args = {1, 1, 7, 1, 1, 7, 1, 7};
            args[star] = 100;
            Check.renderFails("%*.*u%*.*u%*u", BAD_WIDTH, args);
        }
        Check.renders("%*.*u%*.*u%*u", "100100100", 1, 1, 100, 1, 1, 100, 1, 100);
        Check.renderFails("%99d%99d%99d%*d", BAD_WIDTH, 1, 1, 1, 100, 1);
        Check.renderFails("%1$*1$d", BAD_WIDTH, 100);
        Check.renderFails("%1$.*1$d", BAD_WIDTH, 100);
        Check.renders("%1$d%2$d", "100100", 100, 100);
    }

    /** "n = a if long, else (int) a", "The magnitude is |n| (2^63 for the least long)" */
    private static void signedValues() {
        Check.renders("%ld", "-9223372036854775808", LEAST);
        Check.renders("%+ld", "-9223372036854775808", LEAST);
        Check.renders("%.20ld", "-09223372036854775808", LEAST);
        Check.renders("%.19ld", "-9223372036854775808", LEAST);
        Check.renders("%022ld", "-009223372036854775808", LEAST);
        Check.renders("%-22ld|", "-9223372036854775808  |", LEAST);
        Check.renders("%ld", "-9223372036854775807", LEAST + 1);
        Check.renders("%ld", "9223372036854775807", GREATEST);
        Check.renders("%d|%d|%d", "0|1|-1", LEAST, LEAST + 1, GREATEST);
        Check.renders("%d|%ld", "-2147483648|-2147483648", Integer.MIN_VALUE, Integer.MIN_VALUE);
        Check.renders("%d|%ld", "2147483647|2147483647", Integer.MAX_VALUE, Integer.MAX_VALUE);
        Check.renders("%d|%ld", "-2147483648|2147483648", 1L << 31, 1L << 31);
        Check.renders("%d|%ld", "2147483647|-2147483649", Integer.MIN_VALUE - 1L, Integer.MIN_VALUE - 1L);
        Check.renders("%d|%ld", "-1|4294967295", TWO_TO_32 - 1, TWO_TO_32 - 1);
        Check.renders("%d|%ld", "0|4294967296", TWO_TO_32, TWO_TO_32);
        long power = 1;
        for (int digits = 1; digits <= 18; digits++) {
            power *= 10;
            Check.renders("%ld|%ld|%ld", (power - 1) + "|" + power + "|" + -power, power - 1, power, -power);
        }
    }

    /** "'-' if n < 0, else '+' with flag '+', else ' ' with flag ' ', else none" */
    private static void signParts() {
        Check.renders("%d|%+d|% d|%+ d|% +d", "0|+0| 0|+0|+0", 0, 0, 0, 0, 0);
        Check.renders("%d|%+d|% d|%+ d|% +d", "-1|-1|-1|-1|-1", -1, -1, -1, -1, -1);
        Check.renders("%+d|%+d", "+0|-2147483648", TWO_TO_32, 1L << 31);
        Check.renders("%+u|% u|%+x|% X|%+o|% o", "0|0|0|0|0|0");
        Check.renders("%+lu|% lx", "18446744073709551615|ffffffffffffffff", -1, -1);
    }

    /** "n = a if long, else a & 0xFFFFFFFFL. n is taken as unsigned 64-bit" */
    private static void unsignedValues() {
        Check.renders("%u|%lu", "4294967295|18446744073709551615", -1, -1);
        Check.renders("%u|%lu", "0|9223372036854775808", LEAST, LEAST);
        Check.renders("%u|%lu", "4294967295|9223372036854775807", GREATEST, GREATEST);
        Check.renders("%u|%lu", "2147483648|18446744071562067968", Integer.MIN_VALUE, Integer.MIN_VALUE);
        Check.renders("%u|%lu", "0|4294967296", TWO_TO_32, TWO_TO_32);
        Check.renders("%x|%lx", "ffffffff|ffffffffffffffff", -1, -1);
        Check.renders("%X|%lX", "0|8000000000000000", LEAST, LEAST);
        Check.renders("%o|%lo", "37777777777|1777777777777777777777", -1, -1);
        Check.renders("%o|%lo", "0|1000000000000000000000", LEAST, LEAST);
        Check.renders("%x|%X", "89abcdef|89ABCDEF", 0x1234567_89ABCDEFL, 0x1234567_89ABCDEFL);
        for (int digit = 0; digit < 16; digit++) {
            Check.renders("%x%X", "" + "0123456789abcdef".charAt(digit) + "0123456789ABCDEF".charAt(digit), digit, digit);
        }
        for (int shift = 0; shift < 64; shift++) {
            for (long n : new long[] {1L << shift, (1L << shift) - 1, -(1L << shift)}) {
                String want = Long.toUnsignedString(n) + " " + Long.toHexString(n) + " " + Long.toOctalString(n);
                Check.renders("%lu %lx %lo", want, n, n, n);
            }
        }
    }

    /** "Digits D: empty if n = 0 and P = 0." */
    private static void noDigits() {
        for (String c : new String[] {"d", "u", "x", "X", "o", "ld", "lu", "lx", "lX", "lo"}) {
            Check.renders("[%.0" + c + "]", "[]", 0);
            Check.renders("[%." + c + "]", "[]", 0);
            Check.renders("[%3.0" + c + "]", "[   ]", 0);
            Check.renders("[%-3.0" + c + "]", "[   ]", 0);
            Check.renders("[%03.0" + c + "]", "[   ]", 0);
            Check.renders("[%.0" + c + "]", "[1]", 1);
            Check.renders("[%.1" + c + "]", "[0]", 0);
            Check.renders("[%" + c + "]", "[0]", 0);
            Check.renders("[%.*" + c + "]", "[]", 0, 0);
            Check.renders("[%.*" + c + "]", "[0]", -1, 0);
        }
        Check.renders("[%+.0d|% .0d|%+4.0d]", "[+| |   +]", 0, 0, 0);
        Check.renders("[%.0d|%.0u|%.0x]", "[||]", TWO_TO_32, TWO_TO_32, TWO_TO_32);
        Check.renders("[%.0ld|%.0lx]", "[4294967296|100000000]", TWO_TO_32, TWO_TO_32);
    }

    /** "with '0's put in front until D has P chars" */
    private static void digitsUpToThePrecision() {
        Check.renders("%.2d|%.3d|%.4d", "123|123|0123", 123, 123, 123);
        Check.renders("%.2d|%.3d|%.4d", "-123|-123|-0123", -123, -123, -123);
        Check.renders("%.1x|%.2x|%.3x", "ff|ff|0ff", 255, 255, 255);
        Check.renders("%.1X|%.2X|%.3X", "FF|FF|0FF", 255, 255, 255);
        Check.renders("%.1o|%.2o|%.3o", "17|17|017", 15, 15, 15);
        Check.renders("%.19lu|%.20lu|%.21lu", "18446744073709551615|18446744073709551615|018446744073709551615", -1, -1, -1);
        Check.renders("%.22lo|%.23lo", "1777777777777777777777|01777777777777777777777", -1, -1);
        Check.renders("%.1d|%.2d", "0|00", 0, 0);
    }

    /** "0x (for x) or 0X (for X) when flag '#' is set and n != 0; otherwise none" */
    private static void hexPrefixes() {
        Check.renders("%#x|%#X|%#x|%#X", "0x1|0X1|0|0", 1, 1, 0, 0);
        Check.renders("%#x|%#X", "0|0", TWO_TO_32, LEAST);
        Check.renders("%#lx|%#lX", "0x100000000|0X8000000000000000", TWO_TO_32, LEAST);
        Check.renders("[%#.0x|%#.0X|%#.1x|%#.2x]", "[||0|00]", 0, 0, 0, 0);
        Check.renders("%#.0x|%#.1x|%#.2x", "0xf|0xf|0x0f", 15, 15, 15);
        Check.renders("%#d|%#u|%#ld", "-1|1|1", -1, 1, 1);
        Check.renders("%x|%X", "f|F", 15, 15);
    }

    /** "if D is empty or does not start with '0', a '0' is put in front of D" */
    private static void octalPrefix() {
        Check.renders("%#o|%#.0o|%#.1o|%#.2o", "0|0|0|00", 0, 0, 0, 0);
        Check.renders("%#o|%#.0o|%#.1o|%#.2o|%#.3o", "07|07|07|07|007", 7, 7, 7, 7, 7);
        Check.renders("%#.2o|%#.3o|%#.4o", "017|017|0017", 15, 15, 15);
        Check.renders("%#lo", "01777777777777777777777", -1);
        Check.renders("%#.22lo|%#.23lo", "01777777777777777777777|01777777777777777777777", -1, -1);
        Check.renders("%#3.0o|%-#3.0o|%#03.0o", "  0|0  |  0", 0, 0, 0);
        Check.renders("%#02o|%#03o|%#3o|%#04o", "017|017|017|0017", 15, 15, 15, 15);
        Check.renders("%#04o|%#.4o|%o", "0000|0000|0", 0, 0, 0);
    }

    /** "'0's go between prefix and D until prefix and D together have at least W chars" */
    private static void zerosUpToTheWidth() {
        Check.renders("%01d|%02d|%03d|%04d", "12|12|012|0012", 12, 12, 12, 12);
        Check.renders("%02d|%03d|%04d|%05d", "-12|-12|-012|-0012", -12, -12, -12, -12);
        Check.renders("%+03d|%+04d|% 03d|% 04d", "+12|+012| 12| 012", 12, 12, 12, 12);
        Check.renders("%#03x|%#04x|%#05x|%#05X", "0xff|0xff|0x0ff|0X0FF", 255, 255, 255, 255);
        Check.renders("%03u|%03x|%03o", "012|00c|014", 12, 12, 12);
        Check.renders("%03d|%#03x", "000|000", 0, 0);
        Check.renders("%099d", "0".repeat(97) + "12", 12);
        Check.renders("%#099x", "0x" + "0".repeat(95) + "ff", 255);
        Check.renders("%0*d|%0*d", "12|012", 2, 12, 3, 12);
    }

    /** "If flag '0' is set, flag '-' is not set and P is none": otherwise the flag has no effect. */
    private static void zeroFlagWithoutEffect() {
        Check.renders("%-05d|%0-5d|", "12   |12   |", 12, 12);
        Check.renders("%05.0d|%05.1d|%05.3d|%05.9d", "   12|   12|  012|000000012", 12, 12, 12, 12);
        Check.renders("%05.d|%-05.3d|", "   12|012  |", 12, 12);
        Check.renders("%05.*d|%05.*d", "   12|00012", 0, 12, -1, 12);
        Check.renders("%0d|%0x", "12|c", 12, 12);
    }

    /** "c: the single char (char) a; P is ignored." */
    private static void chars() {
        for (long a : new long[] {0, 1, 65, 255, 256, 0xD800, 0xFFFF, 0x10000, 0x10041, -1, LEAST, GREATEST}) {
            Check.renders("%c", "" + (char) a, a);
            Check.renders("%.0c|%.c|%.99c", (char) a + "|" + (char) a + "|" + (char) a, a, a, a);
            Check.renders("%.*c", "" + (char) a, 0, a);
        }
    }

    /** "s: the chars (a >>> 8k) & 255 for k = 0..7, up to before the first 0" */
    private static void texts() {
        String all = "abcdefgh";
        for (int length = 0; length <= 8; length++) {
            long packed = length == 8 ? 0x6867666564636261L : 0x6867666564636261L & ((1L << (8 * length)) - 1);
            Check.renders("%s|", all.substring(0, length) + "|", packed);
            if (length < 7) {
                // What stands behind the first 0 is not part of the text.
                Check.renders("%s|", all.substring(0, length) + "|", packed | 0x7A00000000000000L);
            }
        }
        Check.renders("%s", "\u00FF".repeat(8), -1);
        Check.renders("%s|", "|", LEAST);
        Check.renders("%s", "\u0001\u0001\u0001\u0001\u0001\u0001\u0001\u0080", 0x8001010101010101L);
    }

    /** "and at most P of them if P is given" */
    private static void textsUpToThePrecision() {
        for (int precision = 0; precision <= 99; precision++) {
            Check.renders("%." + precision + "s|", "abcdefgh".substring(0, Math.min(precision, 8)) + "|", 0x6867666564636261L);
            Check.renders("%." + precision + "s|", "abc".substring(0, Math.min(precision, 3)) + "|", 0x636261L);
        }
        Check.renders("%5.0s|%-5.2s|%5.9s", "     |ab   |  abc", 0x636261L, 0x636261L, 0x636261L);
    }

    /** "c and s ignore all flags except '-'." */
    private static void charsAndTextsIgnoreFlags() {
        for (String flags : new String[] {"", "+", " ", "0", "#", "+ 0#"}) {
            Check.renders("%" + flags + "c|%" + flags + "s|", "a|ab|", 'a', 0x6261L);
            Check.renders("%" + flags + "4c|%" + flags + "4s|", "   a|  ab|", 'a', 0x6261L);
            Check.renders("%-" + flags + "4c|%-" + flags + "4s|", "a   |ab  |", 'a', 0x6261L);
            Check.renders("%" + flags + "4s|", "    |", 0);
        }
    }

    /** "if the text has fewer than W chars, spaces are added to make W chars" */
    private static void spacesUpToTheWidth() {
        Check.renders("%1d|%2d|%3d", "12|12| 12", 12, 12, 12);
        Check.renders("%-1d|%-2d|%-3d|", "12|12|12 |", 12, 12, 12);
        Check.renders("%2d|%3d|%4d", "-12|-12| -12", -12, -12, -12);
        Check.renders("%#3x|%#4x|%#5x", "0xff|0xff| 0xff", 255, 255, 255);
        Check.renders("%1c|%2c|%-2c|", "a| a|a |", 'a', 'a', 'a');
        Check.renders("%1$7s|%1$8s|%1$9s", "abcdefgh|abcdefgh| abcdefgh", 0x6867666564636261L);
        Check.renders("%3.3d|%4.3d|%-4.3d|", "012| 012|012 |", 12, 12, 12);
        Check.renders("%99s|", " ".repeat(99) + "|", 0);
    }

    /** The longest text of one directive: all of the 99 digits, and a prefix before them. */
    private static void longestTexts() {
        Check.renders("%99.99d", "-" + "0".repeat(98) + "1", -1);
        Check.renders("%#.99x|%#.99X", "0x" + "0".repeat(98) + "1|0X" + "0".repeat(98) + "1", 1, 1);
        Check.renders("%#.99lx", "0x" + "0".repeat(83) + "ffffffffffffffff", -1);
        Check.renders("%#.99lo", "0".repeat(77) + "1777777777777777777777", -1);
        Check.renders("%+.99ld", "+" + "0".repeat(80) + "9223372036854775807", GREATEST);
    }

    /** "outChar(i) answers out[i] if 0 <= i < length of out, else (char) 0" */
    private static void outCharOutsideTheText() {
        for (int length : new int[] {1, 15, 16, 99}) {
            Check check = Check.fresh(length).compiled("%0" + length + "d");
            check.x.render();
            for (int i = -300; i <= 300; i++) {
                Check.due("outChar(" + i + ") of " + length, check.x.outChar(i), i >= 0 && i < length ? '0' : (char) 0);
            }
            for (int i : new int[] {65536, -65536, Integer.MIN_VALUE, Integer.MAX_VALUE}) {
                Check.due("outChar(" + i + ") of " + length, check.x.outChar(i), (char) 0);
            }
        }
        Check full = Check.fresh(256).compiled("%099d%099d%058d");
        full.x.render();
        Check.due("outLength of a full text", full.x.outLength(), 256);
        Check.due("outChar(255) of a full text", full.x.outChar(255), '0');
        Check.due("outChar(256) of a full text", full.x.outChar(256), (char) 0);
        Check.due("outChar(-1) of a full text", full.x.outChar(-1), (char) 0);
    }

    /** The same, where an older and longer text stood. */
    private static void outAfterAShorterText() {
        Check check = Check.fresh(64).compiled("abcdefgh");
        check.x.render();
        for (int length = 7; length >= 0; length--) {
            check.compiled("z".repeat(length));
            check.x.render();
            Check.due("outLength of " + length, check.x.outLength(), length);
            for (int i = 0; i < 10; i++) {
                Check.due("outChar(" + i + ") of " + length, check.x.outChar(i), i < length ? 'z' : (char) 0);
            }
        }
    }
}
