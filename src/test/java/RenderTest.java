/** Promises 7, 8 and 9. */
public final class RenderTest {
    private static final long LEAST = Long.MIN_VALUE;
    private static final int BAD_WIDTH = FormatScanner.ERR_BAD_WIDTH;

    public static void main(String[] arguments) {
        settingArgs();
        signed();
        unsigned();
        precisions();
        alternateForms();
        zeroFlag();
        charsAndTexts();
        stars();
        badStars();
        refusals();
        capacityEdge();
        outputReaders();
        Check.finish();
    }

    private static void settingArgs() {
        Check check = Check.fresh(256).compiled("%ld %ld %ld %ld %ld %ld %ld %ld");
        for (int slot = 0; slot < 8; slot++) {
            Check.due("setArg(" + slot + ")", check.x.setArg(slot, slot * 11L), true);
        }
        int[] outside = {-1, 8, 9, Integer.MIN_VALUE, Integer.MAX_VALUE};
        for (int slot : outside) {
            Check.due("setArg(" + slot + ")", check.x.setArg(slot, 99), false);
        }
        Check.due("setArg keeps the table", check.x.argCount(), 8);
        check.x.render();
        Check.due("the args set", check.out(), "0 11 22 33 44 55 66 77");
        check.x.setArg(3, LEAST);
        Check.due("setArg keeps the output", check.out(), "0 11 22 33 44 55 66 77");
        check.x.render();
        Check.due("one arg set anew", check.out(), "0 11 22 -9223372036854775808 44 55 66 77");
    }

    private static void signed() {
        Check.renders("%d", "0", 0);
        Check.renders("%d", "-2147483648", Integer.MIN_VALUE);
        Check.renders("%d", "2147483647", Integer.MAX_VALUE);
        Check.renders("%d", "-2147483648", 2147483648L);
        Check.renders("%d", "0", 1L << 32);
        Check.renders("%d", "-1", 0xFFFFFFFFL);
        Check.renders("%ld", "4294967295", 0xFFFFFFFFL);
        Check.renders("%ld", "9223372036854775807", Long.MAX_VALUE);
        Check.renders("%ld", "-9223372036854775808", LEAST);
        Check.renders("%d", "0", LEAST);
        Check.renders("%+d|%+d|%+d", "+5|-5|+0", 5, -5, 0);
        Check.renders("% d|% d|% d", " 5|-5| 0", 5, -5, 0);
        Check.renders("%+ d|% +d", "+5|+5", 5, 5);
        Check.renders("%#d", "5", 5);
        Check.renders("%5d|%-5d|%1d", "   42|42   |42", 42, 42, 42);
        Check.renders("%+5d|%-+5d|", "  +42|+42  |", 42, 42);
    }

    private static void unsigned() {
        Check.renders("%u", "4294967295", -1);
        Check.renders("%lu", "18446744073709551615", -1);
        Check.renders("%lu", "9223372036854775808", LEAST);
        Check.renders("%lu", "9999999999999999999", -8446744073709551617L);
        Check.renders("%u", "0", 1L << 32);
        Check.renders("%+u|% u", "7|7", 7, 7);
        Check.renders("%x|%X", "deadbeef|DEADBEEF", 0xDEADBEEFL, 0xDEADBEEFL);
        Check.renders("%x", "ffffffff", -1);
        Check.renders("%lx|%lX", "ffffffffffffffff|FFFFFFFFFFFFFFFF", -1, -1);
        Check.renders("%lx", "123456789abcdef0", 0x123456789ABCDEF0L);
        Check.renders("%lX", "8000000000000000", LEAST);
        Check.renders("%o", "37777777777", -1);
        Check.renders("%lo", "1777777777777777777777", -1);
        Check.renders("%lo", "1000000000000000000000", LEAST);
        Check.renders("%u %x %X %o", "0 0 0 0", 0, 0, 0, 0);
        Check.renders("%u %x %X %o", "9 a F 10", 9, 10, 15, 8);
    }

    private static void precisions() {
        Check.renders("[%.0d]", "[]", 0);
        Check.renders("[%.d]", "[]", 0);
        Check.renders("[%.0d]", "[1]", 1);
        Check.renders("[%.1d]", "[0]", 0);
        Check.renders("[%.0u%.0x%.0X%.0o]", "[]", 0, 0, 0, 0);
        Check.renders("[%+.0d]", "[+]", 0);
        Check.renders("[% .0d]", "[ ]", 0);
        Check.renders("[%5.0d]", "[     ]", 0);
        Check.renders("[%-5.0d]", "[     ]", 0);
        Check.renders("[%.0d]", "[]", 1L << 32);
        Check.renders("%.5d", "00042", 42);
        Check.renders("%.5d", "-00042", -42);
        Check.renders("%.2d", "142", 142);
        Check.renders("%8.5d|%-8.5d|", "   00042|00042   |", 42, 42);
        Check.renders("%+8.5d", "  +00042", 42);
        Check.renders("%.4x", "00ff", 255);
        Check.renders("%.99d", "0".repeat(98) + "7", 7);
        Check.renders("%#.99lx", "0x" + "0".repeat(98) + "7", 7);
        Check.renders("%#.99lo", "0".repeat(98) + "7", 7);
    }

    private static void alternateForms() {
        Check.renders("%#x|%#X", "0xff|0XFF", 255, 255);
        Check.renders("%#x|%#X", "0|0", 0, 0);
        Check.renders("%#x", "0", 1L << 32);
        Check.renders("%#lx", "0x100000000", 1L << 32);
        Check.renders("[%#.0x]", "[]", 0);
        Check.renders("%#.4x", "0x00ff", 255);
        Check.renders("%#8x|%-#8x|", "    0xff|0xff    |", 255, 255);
        Check.renders("%#08x", "0x0000ff", 255);
        Check.renders("%#08x", "00000000", 0);
        Check.renders("%#o", "017", 15);
        Check.renders("%#o", "0", 0);
        Check.renders("%#.0o", "0", 0);
        Check.renders("%#.1o", "0", 0);
        Check.renders("%#.2o", "017", 15);
        Check.renders("%#.3o", "017", 15);
        Check.renders("%#.4o", "0017", 15);
        Check.renders("%#3.0o|", "  0|", 0);
        Check.renders("%#5o|%-#5o|", "  017|017  |", 15, 15);
        Check.renders("%#05o", "00017", 15);
        Check.renders("%#u", "15", 15);
    }

    private static void zeroFlag() {
        Check.renders("%05d", "00042", 42);
        Check.renders("%05d", "-0042", -42);
        Check.renders("%+05d", "+0042", 42);
        Check.renders("% 05d", " 0042", 42);
        Check.renders("%02d", "142", 142);
        Check.renders("%-05d|", "42   |", 42);
        Check.renders("%0-5d|", "42   |", 42);
        Check.renders("%05.3d", "  042", 42);
        Check.renders("%05.0d", "     ", 0);
        Check.renders("%05.d", "    7", 7);
        Check.renders("%0d", "7", 7);
        Check.renders("%05u|%05x|%05o", "00042|0002a|00052", 42, 42, 42);
        Check.renders("%099ld", "-" + "0".repeat(79) + "9223372036854775808", LEAST);
    }

    private static void charsAndTexts() {
        Check.renders("%c%c", "Az", 'A', 'z');
        Check.renders("%c", "\0", 0);
        Check.renders("%c", "\uFFFF", -1);
        Check.renders("%c", "A", 0x10041L);
        Check.renders("%3c|%-3c|", "  A|A  |", 'A', 'A');
        Check.renders("%03c|%+c|% c|%#c", "  A|A|A|A", 'A', 'A', 'A', 'A');
        Check.renders("%.0c|%.5c", "A|A", 'A', 'A');
        Check.renders("%s", "", 0);
        Check.renders("%s", "abc", 0x636261L);
        Check.renders("%s", "abcdefgh", 0x6867666564636261L);
        Check.renders("%s", "\u00FF\u00FF\u00FF\u00FF\u00FF\u00FF\u00FF\u00FF", -1);
        Check.renders("%s", "a", 0x63_00_61L);
        Check.renders("%s", "", 0x636200L);
        Check.renders("%.2s", "ab", 0x636261L);
        Check.renders("%.0s|%.s", "|", 0x636261L, 0x636261L);
        Check.renders("%.3s|%.4s|%.99s", "abc|abc|abc", 0x636261L, 0x636261L, 0x636261L);
        Check.renders("%.8s|%.9s", "abcdefgh|abcdefgh", 0x6867666564636261L, 0x6867666564636261L);
        Check.renders("%5s|%-5s|%2s", "  abc|abc  |abc", 0x636261L, 0x636261L, 0x636261L);
        Check.renders("%05s|%+s|% s|%#s", "  abc|abc|abc|abc", 0x636261L, 0x636261L, 0x636261L, 0x636261L);
        Check.renders("%5.1s|%-5.1s|", "    a|a    |", 0x636261L, 0x636261L);
        Check.renders("%3s|", "   |", 0);
    }

    private static void stars() {
        Check.renders("%*d|", "   42|", 5, 42);
        Check.renders("%*d|", "42   |", -5, 42);
        Check.renders("%-*d|", "42   |", 5, 42);
        Check.renders("%*d|", "42|", 0, 42);
        Check.renders("%0*d|", "00042|", 5, 42);
        Check.renders("%0*d|", "42   |", -5, 42);
        Check.renders("%*d", " ".repeat(98) + "7", 99, 7);
        Check.renders("%*d", "7" + " ".repeat(98), -99, 7);
        Check.renders("%.*d", "007", 3, 7);
        Check.renders("[%.*d]", "[]", 0, 0);
        Check.renders("[%.*d]", "[0]", -1, 0);
        Check.renders("[%.*d]", "[0]", Integer.MIN_VALUE, 0);
        Check.renders("%05.*d", "00042", -1, 42);
        Check.renders("%05.*d", "   42", 0, 42);
        Check.renders("%.*d", "0".repeat(98) + "7", 99, 7);
        Check.renders("%*.*d|", "   007|", 6, 3, 7);
        Check.renders("%*c|%*s|", "  A|a  |", 3, 'A', -3, 'a');
        Check.renders("%.*s", "ab", 2, 0x636261L);
        Check.renders("%.*s", "abc", -2, 0x636261L);
        Check.renders("%*d", "  7", (1L << 32) + 3, 7);
        Check.renders("%*d|", "7  |", 0xFFFFFFFDL, 7);
        Check.renders("%.*d", "007", LEAST + 3, 7);
        Check.renders("%1$*1$d", "    5", 5);
        Check.renders("%2$0*1$d|%2$*1$d|%2$.*1$d", "0007|   7|0007", 4, 7);
    }

    private static void badStars() {
        Check.renderFails("%*d", BAD_WIDTH, 100, 1);
        Check.renderFails("%*d", BAD_WIDTH, -100, 1);
        Check.renderFails("%*d", BAD_WIDTH, Integer.MIN_VALUE, 1);
        Check.renderFails("%*d", BAD_WIDTH, Integer.MAX_VALUE, 1);
        Check.renderFails("%*c", BAD_WIDTH, 100, 1);
        Check.renderFails("%.*d", BAD_WIDTH, 100, 1);
        Check.renderFails("%.*c", BAD_WIDTH, 100, 1);
        Check.renderFails("%.*s", BAD_WIDTH, Integer.MAX_VALUE, 1);
        Check.renderFails("%*.*d", BAD_WIDTH, 5, 100, 1);
        Check.renderFails("%*.*d", BAD_WIDTH, -100, 5, 1);
        Check.renderFails("%99d%99d%99d%*d", BAD_WIDTH, 1, 1, 1, 100, 1);
        Check.renderFails("%99d%99d%99d%*d", FormatScanner.ERR_OVERFLOW, 1, 1, 1, 99, 1);
    }

    private static void refusals() {
        Check check = Check.fresh(16).compiled("<%d>").args(5).input("<6>");
        check.x.render();
        check.x.scan();
        check.compiled("%*d").args(17, 8);
        String before = check.seen();
        Check.due("render of 17 chars, cap 16", check.x.render(), FormatScanner.ERR_OVERFLOW);
        Check.due("seen after ERR_OVERFLOW", check.seen(), before);
        check.args(100);
        Check.due("render of a bad star", check.x.render(), BAD_WIDTH);
        Check.due("seen after ERR_BAD_WIDTH", check.seen(), before);
        check.format("abc");
        before = check.seen();
        Check.due("render if not compiled", check.x.render(), FormatScanner.ERR_NOT_COMPILED);
        Check.due("seen after ERR_NOT_COMPILED", check.seen(), before);
        Check.due("out after the refusals", check.out(), "<5>");
        check.compiled("<%d>");
        check.scanIs("scan after the refusals", 1, 1, 3, 6);
        before = check.seen();
        check.args(5);
        Check.due("render of the same text", check.x.render(), 3);
        Check.due("render changes the output alone", check.seen(), before);
    }

    private static void capacityEdge() {
        Check check = Check.fresh(20).compiled("a".repeat(20));
        Check.due("a literal as long as the capacity", check.x.render(), 20);
        check.compiled("b".repeat(21));
        Check.due("a literal longer than the capacity", check.x.render(), FormatScanner.ERR_OVERFLOW);
        Check.due("out after it", check.out(), "a".repeat(20));
        check.compiled("%99d%99d%99d%99d%99d%99d%99d%99d");
        Check.due("render of 792 chars", check.x.render(), FormatScanner.ERR_OVERFLOW);
        check.compiled("%1$99d%1$99d%1$99d%1$99d%1$99d%1$99d%1$99d%1$99d%1$99d%1$99d");
        Check.due("render of 990 chars", check.x.render(), FormatScanner.ERR_OVERFLOW);
        Check.due("out after all", check.out(), "a".repeat(20));
        check.compiled("");
        Check.due("render of an empty format", check.x.render(), 0);
        Check.due("outLength after it", check.x.outLength(), 0);
        Check.due("outChar(0) after it", check.x.outChar(0), (char) 0);
    }

    private static void outputReaders() {
        Check check = Check.fresh(16).compiled("abc");
        Check.due("outLength before render", check.x.outLength(), 0);
        check.x.render();
        Check.due("outLength", check.x.outLength(), 3);
        Check.due("outChar(0)", check.x.outChar(0), 'a');
        Check.due("outChar(2)", check.x.outChar(2), 'c');
        int[] outside = {-1, 3, 4, 15, 16, 255, 256, Integer.MIN_VALUE, Integer.MAX_VALUE};
        for (int i : outside) {
            Check.due("outChar(" + i + ")", check.x.outChar(i), (char) 0);
        }
        check.compiled("x");
        check.x.render();
        Check.due("outChar(1) after a shorter text", check.x.outChar(1), (char) 0);
    }
}
