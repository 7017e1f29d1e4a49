/** Promises 13 and 14. */
public final class ScanTest {
    public static void main(String[] arguments) {
        literals();
        chars();
        signed();
        unsigned();
        hex();
        octal();
        texts();
        widths();
        stars();
        slots();
        refusals();
        readers();
        inputsCutAnywhere();
        Check.finish();
    }

    private static void literals() {
        Check.scans("", "abc", 0, 0, 0);
        Check.scans("abc", "abc", 0, 0, 3);
        Check.scans("abc", "abd", 0, 0, 2);
        Check.scans("abc", "ab", 0, 0, 2);
        Check.scans("abc", "", 0, 0, 0);
        Check.scans("a%%b", "a%b", 0, 0, 3);
        Check.scans("a b", "a b", 0, 0, 3);
        Check.scans("a b", "ab", 0, 0, 2);
        Check.scans("a b", "a \t\n\u000B\f\r b", 0, 0, 9);
        Check.scans("a\nb", "a   b", 0, 0, 5);
        Check.scans(" ", "   ", 0, 0, 3);
        Check.scans("   ", " ", 0, 0, 1);
        Check.scans(" ", "", 0, 0, 0);
        Check.scans("a", " a", 0, 0, 0);
        for (char c = 0; c < 300; c++) {
            boolean white = c == 32 || (c >= 9 && c <= 13);
            Check.scans(" x", c + "x", 0, 0, white ? 2 : c == 'x' ? 1 : 0);
            if (c != '%') {
                Check.scans(c + "x", "x", 0, 0, white ? 1 : c == 'x' ? 1 : 0);
            }
        }
        Check.scans(" x", "\u00A0x", 0, 0, 0);
        Check.scans(" x", "\u2003x", 0, 0, 0);
        Check.scans("ab%d", "ac5", 0, 0, 1);
        Check.scans("x%d", "5", 0, 0, 0);
        Check.scans("%d x%d", "5  y6", 1, 1, 3, 5);
    }

    private static void chars() {
        Check.scans("%c", "A", 1, 1, 1, 65);
        Check.scans("%c", " ", 1, 1, 1, 32);
        Check.scans("%c", "\0", 1, 1, 1, 0);
        Check.scans("%c", "\uFFFF", 1, 1, 1, 65535);
        Check.scans("%c", "", 0, 0, 0);
        Check.scans("%c%c", "A", 1, 1, 1, 65);
        Check.scans("%5c%c", "AB", 2, 3, 2, 65, 66);
        Check.scans("%0.0c", "A", 1, 1, 1, 65);
        Check.scans("%c %c", "A   B", 2, 3, 5, 65, 66);
    }

    private static void signed() {
        Check.scans("%d", "42", 1, 1, 2, 42);
        Check.scans("%d", "-42", 1, 1, 3, -42);
        Check.scans("%d", "+42", 1, 1, 3, 42);
        Check.scans("%d", " \t\n\u000B\f\r42x", 1, 1, 8, 42);
        Check.scans("%d", "", 0, 0, 0);
        Check.scans("%d", "   ", 0, 0, 0);
        Check.scans("%d", "  x", 0, 0, 0);
        Check.scans("%d", "-", 0, 0, 0);
        Check.scans("%d", "  +", 0, 0, 0);
        Check.scans("%d", "- 5", 0, 0, 0);
        Check.scans("%d", "--5", 0, 0, 0);
        Check.scans("%d", "+-5", 0, 0, 0);
        Check.scans("%d", "0x1f", 1, 1, 1, 0);
        Check.scans("%d", "12a", 1, 1, 2, 12);
        Check.scans("%d", "1/", 1, 1, 1, 1);
        Check.scans("%d", "1:", 1, 1, 1, 1);
        Check.scans("%d", "\uFF11", 0, 0, 0);
        Check.scans("%d", "2147483648", 1, 1, 10, -2147483648L);
        Check.scans("%d", "-2147483649", 1, 1, 11, 2147483647L);
        Check.scans("%d", "4294967296", 1, 1, 10, 0);
        Check.scans("%ld", "4294967296", 1, 1, 10, 4294967296L);
        Check.scans("%ld", "9223372036854775807", 1, 1, 19, Long.MAX_VALUE);
        Check.scans("%ld", "-9223372036854775808", 1, 1, 20, Long.MIN_VALUE);
        Check.scans("%ld", "9223372036854775808", 1, 1, 19, Long.MIN_VALUE);
        Check.scans("%ld", "-18446744073709551617", 1, 1, 21, -1);
        Check.scans("%.1d", "42", 1, 1, 2, 42);
        Check.scans("%-+ 0#d", "42", 1, 1, 2, 42);
        Check.scans("%d%d", "1 -2", 2, 3, 4, 1, -2);
        Check.scans("%d%d", "1-2", 2, 3, 3, 1, -2);
        Check.scans("%d%d", "12  ", 1, 1, 2, 12);
    }

    private static void unsigned() {
        Check.scans("%u", "42", 1, 1, 2, 42);
        Check.scans("%u", "-42", 0, 0, 0);
        Check.scans("%u", "+42", 0, 0, 0);
        Check.scans("%u", "  9a", 1, 1, 3, 9);
        Check.scans("%u", "4294967295", 1, 1, 10, 4294967295L);
        Check.scans("%u", "4294967297", 1, 1, 10, 1);
        Check.scans("%lu", "18446744073709551615", 1, 1, 20, -1);
        Check.scans("%lu", "18446744073709551616", 1, 1, 20, 0);
    }

    private static void hex() {
        Check.scans("%x", "1f", 1, 1, 2, 31);
        Check.scans("%X", "1f", 1, 1, 2, 31);
        Check.scans("%x", "aAfF0", 1, 1, 5, 0xAAFF0L);
        Check.scans("%x", "fg", 1, 1, 1, 15);
        Check.scans("%x", "g", 0, 0, 0);
        Check.scans("%x", "@", 0, 0, 0);
        Check.scans("%x", "`", 0, 0, 0);
        Check.scans("%x", "G", 0, 0, 0);
        Check.scans("%x", "0x1f", 1, 1, 4, 31);
        Check.scans("%x", "0X1f", 1, 1, 4, 31);
        Check.scans("%X", "0x1f", 1, 1, 4, 31);
        Check.scans("%x", "  0xFg", 1, 1, 5, 15);
        Check.scans("%x", "0x", 1, 1, 1, 0);
        Check.scans("%x", "0xg", 1, 1, 1, 0);
        Check.scans("%x", "0", 1, 1, 1, 0);
        Check.scans("%x", "x1", 0, 0, 0);
        Check.scans("%x", "00x1", 1, 1, 2, 0);
        Check.scans("%x", "1x1", 1, 1, 1, 1);
        Check.scans("%x", "0x0x1", 1, 1, 3, 0);
        Check.scans("%1x", "0x1f", 1, 1, 1, 0);
        Check.scans("%2x", "0x1f", 1, 1, 1, 0);
        Check.scans("%3x", "0x1f", 1, 1, 3, 1);
        Check.scans("%4x", "0x1f2", 1, 1, 4, 31);
        Check.scans("%x", "-1", 0, 0, 0);
        Check.scans("%x", "1ffffffff", 1, 1, 9, 0xFFFFFFFFL);
        Check.scans("%lx", "1ffffffff", 1, 1, 9, 0x1FFFFFFFFL);
        Check.scans("%lx", "ffffffffffffffff", 1, 1, 16, -1);
        Check.scans("%lx", "123456789abcdef01", 1, 1, 17, 0x23456789ABCDEF01L);
    }

    private static void octal() {
        Check.scans("%o", "17", 1, 1, 2, 15);
        Check.scans("%o", "0178", 1, 1, 3, 15);
        Check.scans("%o", "8", 0, 0, 0);
        Check.scans("%o", "+7", 0, 0, 0);
        Check.scans("%o", "77777777777", 1, 1, 11, 0xFFFFFFFFL);
        Check.scans("%lo", "1777777777777777777777", 1, 1, 22, -1);
    }

    private static void texts() {
        Check.scans("%s", "abc", 1, 1, 3, 0x636261L);
        Check.scans("%s", "  abc d", 1, 1, 5, 0x636261L);
        Check.scans("%s", "", 0, 0, 0);
        Check.scans("%s", "  ", 0, 0, 0);
        Check.scans("%s", " \0a", 0, 0, 0);
        Check.scans("%s", "a\0b", 1, 1, 1, 0x61);
        Check.scans("%s", "\u0100", 0, 0, 0);
        Check.scans("%s", "a\u0100", 1, 1, 1, 0x61);
        Check.scans("%s", "\u0001\u00FF", 1, 1, 2, 0xFF01L);
        Check.scans("%s", "abcdefghij", 1, 1, 8, 0x6867666564636261L);
        Check.scans("%s", "\u00FF".repeat(9), 1, 1, 8, -1);
        Check.scans("%3s", "abcdef", 1, 1, 3, 0x636261L);
        Check.scans("%1s%s", "abc", 2, 3, 3, 0x61, 0x6362L);
        Check.scans("%8s", "abcdefghij", 1, 1, 8, 0x6867666564636261L);
        Check.scans("%9s", "abcdefghij", 1, 1, 8, 0x6867666564636261L);
        Check.scans("%99s", "abcdefghij", 1, 1, 8, 0x6867666564636261L);
        Check.scans("%.1s", "abc", 1, 1, 3, 0x636261L);
        for (char c = 9; c <= 13; c++) {
            Check.scans("%s", "a" + c + "b", 1, 1, 1, 0x61);
        }
    }

    private static void widths() {
        Check.scans("%2d%d", "1234", 2, 3, 4, 12, 34);
        Check.scans("%2d%d", "  1234", 2, 3, 6, 12, 34);
        Check.scans("%2d", "-12", 1, 1, 2, -1);
        Check.scans("%1d", "-1", 0, 0, 0);
        Check.scans("%1d", "  -1", 0, 0, 0);
        Check.scans("%3u%3o%2x", "12345678", 3, 7, 8, 123, 0456, 0x78);
        Check.scans("%99ld", "0".repeat(98) + "12", 1, 1, 99, 1);
        Check.scans("%ld", "0".repeat(254) + "12", 1, 1, 256, 12);
    }

    private static void stars() {
        Check check = Check.fresh(64).compiled("%*d%d").input("1234");
        check.args(2).scanIs("scan, star 2", 2, 6, 4, 0, 12, 34);
        check.args(-2).scanIs("scan, star -2", 2, 6, 4, 0, 12, 34);
        check.args(0).scanIs("scan, star 0", 1, 2, 4, 0, 1234);
        check.args((1L << 32) + 3).scanIs("scan, star 2^32 + 3", 2, 6, 4, 0, 123, 4);
        check.compiled("%*s").input("abcdefghij");
        check.args(3).scanIs("scan of s, star 3", 1, 2, 3, 0, 0x636261L);
        check.args(-3).scanIs("scan of s, star -3", 1, 2, 3, 0, 0x636261L);
        check.args(0).scanIs("scan of s, star 0", 1, 2, 8, 0, 0x6867666564636261L);
        check.args(9).scanIs("scan of s, star 9", 1, 2, 8, 0, 0x6867666564636261L);
        check.compiled("%.*d").input("1234");
        check.args(1).scanIs("scan, precision star 1", 1, 2, 4, 0, 1234);
        check.args(-1000).scanIs("scan, precision star -1000", 1, 2, 4, 0, 1234);
        check.compiled("%1$*1$d").args(2);
        check.scanIs("scan into the slot of the star", 1, 1, 2, 12);
        check.scanIs("scan again: the args have not changed", 1, 1, 2, 12);
    }

    private static void slots() {
        Check.scans("%2$d %1$d", "5 6", 2, 3, 3, 6, 5);
        Check.scans("%1$d %1$d", "5 6", 2, 1, 3, 6);
        Check.scans("%1$d %1$d", "5 x", 1, 1, 2, 5);
        Check.scans("%d %d %d", "5 x 7", 1, 1, 2, 5);
        Check.scans("%d%d%d%d%d%d%d%d", "1 2 3 4 5 6 7 8", 8, 255, 15, 1, 2, 3, 4, 5, 6, 7, 8);
        Check.scans("%1$d".repeat(16), "1 2 3 4 5 6 7 8 9 10 11 12 13 14 15 16 17", 16, 1, 38, 16);
    }

    private static void refusals() {
        Check check = Check.fresh(64).compiled("%d %d").args(1, 2).input("5 6");
        check.x.render();
        check.x.scan();
        check.compiled("%*d");
        int[] bad = {100, -100, Integer.MIN_VALUE, Integer.MAX_VALUE};
        for (int star : bad) {
            check.args(star);
            String before = check.seen();
            Check.due("scan, star " + star, check.x.scan(), FormatScanner.ERR_BAD_WIDTH);
            Check.due("seen after it", check.seen(), before);
        }
        check.compiled("%.*d").args(100);
        Check.due("scan, precision star 100", check.x.scan(), FormatScanner.ERR_BAD_WIDTH);
        check.compiled("y%.*c").args(100);
        Check.due("scan, precision star 100 behind a literal", check.x.scan(), FormatScanner.ERR_BAD_WIDTH);
        check.format("%d");
        String before = check.seen();
        Check.due("scan if not compiled", check.x.scan(), FormatScanner.ERR_NOT_COMPILED);
        Check.due("seen after it", check.seen(), before);
        Check.due("scanned(1) after the refusals", check.x.scanned(1), 6L);
        Check.due("scanMask after the refusals", check.x.scanMask(), 3);
        Check.due("scanEnd after the refusals", check.x.scanEnd(), 3);
        check.compiled("%d");
        check.scanIs("a scan that assigns less", 1, 1, 1, 5);
        check.compiled("x");
        check.scanIs("a scan that assigns nothing", 0, 0, 0);
        Check.due("out after the scans", check.out(), "1 2");
    }

    private static void readers() {
        Check check = Check.fresh(64).compiled("%d%d%d%d%d%d%d%d").input("1 2 3 4 5 6 7 8");
        check.x.scan();
        int[] outside = {-1, 8, 9, Integer.MIN_VALUE, Integer.MAX_VALUE};
        for (int slot : outside) {
            Check.due("scanned(" + slot + ")", check.x.scanned(slot), 0L);
        }
        for (int slot = 0; slot < 8; slot++) {
            Check.due("scanned(" + slot + ")", check.x.scanned(slot), slot + 1L);
        }
        check.x.clearInput();
        check.x.clearFormat();
        Check.due("scanned(7) after the texts were cleared", check.x.scanned(7), 8L);
        Check.due("scanMask after the texts were cleared", check.x.scanMask(), 255);
        Check.due("scanEnd after the texts were cleared", check.x.scanEnd(), 15);
    }

    /** An input that ends inside a number answers the same at the edge of the room and before chars of an older input. */
    private static void inputsCutAnywhere() {
        String[] formats = {" %d", " %u", " %x", " %o", " %s", " %c", " x", " 0x%x", " %3x%c", " -%d%d"};
        String[] inputs = {"-12345", "+0", "0x1F", "00xA", "777", "abcdefghij", "x", " \t 5"};
        for (String format : formats) {
            for (String input : inputs) {
                for (int length = 0; length <= input.length(); length++) {
                    cutInput(format, input, length);
                }
            }
        }
    }

    private static void cutInput(String format, String input, int length) {
        String cut = input.substring(0, length);
        Check fresh = Check.fresh(16).compiled(format).input(cut);
        int want = fresh.x.scan();
        String seen = fresh.seen();
        Check older = Check.fresh(16).compiled(format).input(input + input).input(cut);
        String call = "scan of '" + cut + "' by '" + format + "'";
        Check.due(call + " after a longer input", older.x.scan(), want);
        Check.due(call + " after a longer input, seen", older.seen(), seen);
        int room = 256 - length;
        Check full = Check.fresh(16).compiled(format).input(" ".repeat(room) + cut);
        full.scanIs(call + " at the end of a full input", want, fresh.x.scanMask(), room + fresh.x.scanEnd(),
            fresh.x.scanned(0), fresh.x.scanned(1));
    }
}
