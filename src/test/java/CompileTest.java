/** Promises 4, 5 and 6. */
public final class CompileTest {
    private static final int TRUNCATED = FormatScanner.ERR_TRUNCATED;
    private static final int BAD_CONV = FormatScanner.ERR_BAD_CONV;
    private static final int BAD_POS = FormatScanner.ERR_BAD_POS;
    private static final int MIXED = FormatScanner.ERR_MIXED;
    private static final int BAD_WIDTH = FormatScanner.ERR_BAD_WIDTH;
    private static final int TOO_MANY = FormatScanner.ERR_TOO_MANY;
    private static final int GAP = FormatScanner.ERR_GAP;
    private static final int BAD_LENGTH = FormatScanner.ERR_BAD_LENGTH;

    public static void main(String[] arguments) {
        literals();
        positions();
        flagsAndWidths();
        precisions();
        lengthsAndConversions();
        modes();
        limits();
        gaps();
        firstErrorWins();
        argCounts();
        kinds();
        stateAfterwards();
        formatsCutAnywhere();
        formatsAnew();
        Check.finish();
    }

    private static void literals() {
        Check.compiles("", 0);
        Check.compiles("abc", 1);
        Check.compiles("%%", 1);
        Check.compiles("a%%b", 1);
        Check.compiles("%%%%", 1);
        Check.compiles("%d", 1);
        Check.compiles("%%d", 1);
        Check.compiles("%%%d", 2);
        Check.compiles("a%db%%c%dd", 5);
        Check.compiles("%d%d", 2);
        Check.compiles("%", TRUNCATED);
        Check.compiles("abc%", TRUNCATED);
        Check.compiles("%%%", TRUNCATED);
        Check.renders("100%% %d%%%%x", "100% 7%%x", 7);
    }

    private static void positions() {
        for (int p = 2; p <= 8; p++) {
            Check.compiles("%" + p + "$d", GAP);
        }
        Check.compiles("%1$d", 1);
        Check.compiles("%01$d", 1);
        Check.compiles("%0001$d", 1);
        Check.compiles("%0$d", BAD_POS);
        Check.compiles("%9$d", BAD_POS);
        Check.compiles("%10$d", BAD_POS);
        Check.compiles("%100$d", BAD_POS);
        Check.compiles("%4294967297$d", BAD_POS);
        Check.compiles("%18446744073709551617$d", BAD_POS);
        Check.compiles("%10000000000000000000000000000000000000000000001$d", BAD_POS);
        Check.compiles("%9$", BAD_POS);
        Check.compiles("%$d", BAD_CONV);
        Check.compiles("%1$", TRUNCATED);
        Check.compiles("%1", TRUNCATED);
        Check.compiles("%1$2$d", BAD_CONV);
        Check.compiles("%1 $d", BAD_CONV);
        Check.compiles("%-1$d", BAD_CONV);
        Check.compiles("%1$*1$d", 1);
        Check.compiles("%1$*0$d", BAD_POS);
        Check.compiles("%1$*9$d", BAD_POS);
        Check.compiles("%1$.*0$d", BAD_POS);
        Check.compiles("%1$.*9$d", BAD_POS);
        Check.compiles("%1$*$d", BAD_CONV);
        Check.compiles("%1$.*$d", BAD_CONV);
        Check.renders("%2$d %1$d", "5 4", 4, 5);
        Check.renders("%3$*1$.*2$d|", "  007|", 5, 3, 7);
    }

    private static void flagsAndWidths() {
        Check.compiles("%-+ 0#d", 1);
        Check.compiles("%--++  00##d", 1);
        Check.compiles("%-", TRUNCATED);
        Check.compiles("%+", TRUNCATED);
        Check.compiles("% ", TRUNCATED);
        Check.compiles("%0", TRUNCATED);
        Check.compiles("%#", TRUNCATED);
        Check.compiles("%-%", BAD_CONV);
        Check.compiles("%1d", 1);
        Check.compiles("%99d", 1);
        Check.compiles("%099d", 1);
        Check.compiles("%100d", BAD_WIDTH);
        Check.compiles("%0100d", BAD_WIDTH);
        Check.compiles("%1000d", BAD_WIDTH);
        Check.compiles("%4294967297d", BAD_WIDTH);
        Check.compiles("%100", BAD_WIDTH);
        Check.compiles("%99", TRUNCATED);
        Check.compiles("%5-d", BAD_CONV);
        Check.compiles("%5*d", BAD_CONV);
        Check.compiles("%*d", 1);
        Check.compiles("%*", TRUNCATED);
        Check.compiles("%*5d", BAD_CONV);
        Check.compiles("%*5", BAD_CONV);
        Check.compiles("%*100d", BAD_CONV);
        Check.compiles("%**d", BAD_CONV);
        Check.compiles("%*-d", BAD_CONV);
        Check.compiles("%*0d", BAD_CONV);
    }

    private static void precisions() {
        Check.compiles("%.d", 1);
        Check.compiles("%.0d", 1);
        Check.compiles("%.99d", 1);
        Check.compiles("%.0099d", 1);
        Check.compiles("%.100d", BAD_WIDTH);
        Check.compiles("%.00100d", BAD_WIDTH);
        Check.compiles("%.99999999999d", BAD_WIDTH);
        Check.compiles("%.100", BAD_WIDTH);
        Check.compiles("%.", TRUNCATED);
        Check.compiles("%.*", TRUNCATED);
        Check.compiles("%.*d", 1);
        Check.compiles("%.*5d", BAD_CONV);
        Check.compiles("%.-5d", BAD_CONV);
        Check.compiles("%..5d", BAD_CONV);
        Check.compiles("%5.3d", 1);
        Check.compiles("%.3$d", BAD_CONV);
        Check.compiles("%*.*d", 1);
    }

    private static void lengthsAndConversions() {
        for (char c = 0; c < 300; c++) {
            boolean number = "duxXo".indexOf(c) >= 0;
            boolean text = "cs".indexOf(c) >= 0;
            // These chars have a part of their own in a directive.
            if ("-+ 0#123456789*.l%".indexOf(c) < 0) {
                Check.compiles("%" + c, number || text ? 1 : BAD_CONV);
                Check.compiles("%-5" + c, number || text ? 1 : BAD_CONV);
            }
            if (c != 'l') {
                Check.compiles("%l" + c, number ? 1 : text ? BAD_LENGTH : BAD_CONV);
            }
        }
        Check.compiles("%l", TRUNCATED);
        Check.compiles("%lld", BAD_CONV);
        Check.compiles("%ll", BAD_CONV);
        Check.compiles("%l5d", BAD_CONV);
        Check.compiles("%5%", BAD_CONV);
        Check.compiles("%\uFF11d", BAD_CONV);
        Check.compiles("%" + (char) ('d' + 256), BAD_CONV);
    }

    private static void modes() {
        Check.compiles("%d%1$d", MIXED);
        Check.compiles("%1$d%d", MIXED);
        Check.compiles("%*1$d", MIXED);
        Check.compiles("%1$*d", MIXED);
        Check.compiles("%.*1$d", MIXED);
        Check.compiles("%1$.*d", MIXED);
        Check.compiles("%1$*1$.*d", MIXED);
        Check.compiles("%1$*.*1$d", MIXED);
        Check.compiles("%*.*1$d", MIXED);
        Check.compiles("%1$d %% 100%% %2$d", 3);
        Check.compiles("%1$d%1$d%1$d", 3);
    }

    private static void limits() {
        Check.compiles("%d".repeat(8), 8);
        Check.compiles("%d".repeat(9), TOO_MANY);
        Check.compiles("%*.*d%*.*d%*d", 3);
        Check.compiles("%*.*d%*.*d%*.*d", TOO_MANY);
        Check.compiles("%*d".repeat(4), 4);
        Check.compiles("%*d".repeat(4) + "%d", TOO_MANY);
        Check.compiles("%d".repeat(7) + "%*d", TOO_MANY);
        Check.compiles("%d".repeat(8) + "%1$d", MIXED);
        Check.compiles("%d".repeat(7) + "%1$*d", MIXED);
        Check.compiles("%d".repeat(8) + "%1$*d", TOO_MANY);
        Check.compiles("%d".repeat(8) + "%y", BAD_CONV);
        Check.compiles("%1$d".repeat(16), 16);
        Check.compiles("a%1$d".repeat(12) + "%%%%", 25);
    }

    private static void gaps() {
        Check.compiles("%1$d%3$d", GAP);
        Check.compiles("%3$d%1$d", GAP);
        Check.compiles("%3$d%1$d%2$d", 3);
        Check.compiles("%2$*1$d", 1);
        Check.compiles("%3$*1$d", GAP);
        Check.compiles("%3$*1$.*2$d", 1);
        Check.compiles("%2$.*1$d", 1);
        Check.compiles("%1$.*3$d", GAP);
        Check.compiles("%8$d%7$d%6$d%5$d%4$d%3$d%2$d%1$d", 8);
        Check.compiles("%8$d%7$d%6$d%5$d%4$d%3$d%2$d", GAP);
        Check.compiles("%8$d%7$d%6$d%4$d%3$d%2$d%1$d", GAP);
    }

    private static void firstErrorWins() {
        Check.compiles("%9$100d", BAD_POS);
        Check.compiles("%1$100.100y", BAD_WIDTH);
        Check.compiles("%100.*9$d", BAD_WIDTH);
        Check.compiles("%*9$.100d", BAD_POS);
        Check.compiles("%.100ls", BAD_WIDTH);
        Check.compiles("%d%1$ls", BAD_LENGTH);
        Check.compiles("%d%1$y", BAD_CONV);
        Check.compiles("%d%1$", TRUNCATED);
        Check.compiles("%d%1$d%y", MIXED);
        Check.compiles("%2$d%y", BAD_CONV);
        Check.compiles("%2$d%d", MIXED);
        Check.compiles("%y%", BAD_CONV);
    }

    private static void argCounts() {
        argCountIs("", 0);
        argCountIs("abc%%", 0);
        argCountIs("%d", 1);
        argCountIs("%*.*d", 3);
        argCountIs("%*d %.*d", 4);
        argCountIs("%d".repeat(8), 8);
        argCountIs("%1$d%1$d%1$d", 1);
        argCountIs("%2$d%1$d", 2);
        argCountIs("%1$*3$.*2$d", 3);
        argCountIs("%8$d%7$d%6$d%5$d%4$d%3$d%2$d%1$d", 8);
        argCountIs("%2$d", 0);
        argCountIs("%d%", 0);
        Check.due("argCount of a format that is not compiled", Check.with("%d").x.argCount(), 0);
    }

    private static void argCountIs(String format, int want) {
        Check.due("argCount of '" + format + "'", Check.fresh(16).compiled(format).x.argCount(), want);
    }

    private static void kinds() {
        FormatScanner x = Check.fresh(16).compiled("a%d%ld%u%lu%%b%x%lx%X%lX").x;
        int[] want = {0, 100, 356, 117, 373, 0, 120, 376, 88, 344};
        for (int i = 0; i < want.length; i++) {
            Check.due("entryKind(" + i + ")", x.entryKind(i), want[i]);
        }
        int[] outside = {-1, 10, 11, 63, 64, 65, 1000, Integer.MIN_VALUE, Integer.MAX_VALUE};
        for (int i : outside) {
            Check.due("entryKind(" + i + ")", x.entryKind(i), -1);
        }
        x = Check.fresh(16).compiled("%o%lo%c%s").x;
        Check.due("entryKind of o", x.entryKind(0), 111);
        Check.due("entryKind of lo", x.entryKind(1), 367);
        Check.due("entryKind of c", x.entryKind(2), 99);
        Check.due("entryKind of s", x.entryKind(3), 115);
        Check.due("entryKind if not compiled", Check.with("%d").x.entryKind(0), -1);
        Check.due("entryKind of an empty table", Check.fresh(16).compiled("").x.entryKind(0), -1);
        Check.due("entryKind after an error", Check.fresh(16).compiled("a%").x.entryKind(0), -1);
    }

    private static void stateAfterwards() {
        Check check = Check.fresh(64).compiled("%d-%d").args(3, 4).input("5-6");
        check.x.render();
        check.x.scan();
        String before = check.seen();
        Check.due("compile again", check.x.compile(), 3);
        Check.due("seen after compile again", check.seen(), before);
        check.compiled("%d-%d%");
        Check.due("render after an error", check.x.render(), FormatScanner.ERR_NOT_COMPILED);
        Check.due("scan after an error", check.x.scan(), FormatScanner.ERR_NOT_COMPILED);
        Check.due("out after an error", check.out(), "3-4");
        Check.due("scanned(1) after an error", check.x.scanned(1), 6L);
        Check.due("scanMask after an error", check.x.scanMask(), 3);
        Check.due("scanEnd after an error", check.x.scanEnd(), 3);
        Check.due("compile of the wrong format again", check.x.compile(), TRUNCATED);
        Check.due("a char that mends the wrong format", check.x.putFormatChar('d'), 7);
        Check.due("compile of the mended format", check.x.compile(), 4);
        check.compiled("%d+%d");
        check.x.render();
        Check.due("args after compile", check.out(), "3+4");
        check.compiled("%d-%d");
        Check.due("scan of the input after compile", check.x.scan(), 2);
    }

    /** A format that ends inside a directive answers the same at the edge of the room and before chars of an older format. */
    private static void formatsCutAnywhere() {
        String[] formats = {"%1$-+ 0#12.34ld", "%9999$d", "%*9$d", "%.*9$d", "%-999d", "%.999d", "%*.*d", "%%%%%d", "%ls"};
        for (String format : formats) {
            for (int length = 1; length <= format.length(); length++) {
                String cut = "a" + format.substring(0, length);
                int want = Check.with(cut).x.compile();
                Check older = Check.fresh(16).compiled("a" + format + format);
                Check.due("compile of '" + cut + "' after a longer one", older.format(cut).x.compile(), want);
                Check.compiles("a".repeat(64 - cut.length()) + cut, want);
            }
        }
    }

    private static void formatsAnew() {
        Check check = Check.fresh(16);
        String[] formats = {"%1$d%2$d", "%d", "%d%d%d%d%d%d%d%d", "%1$d", "abc", "%3$d%2$d%1$d", "%*.*d"};
        int[] want = {2, 1, 8, 1, 0, 3, 3};
        for (int i = 0; i < formats.length; i++) {
            check.compiled(formats[i]);
            Check.due("argCount of '" + formats[i] + "' after other formats", check.x.argCount(), want[i]);
            check.compiled("%9$d");
        }
    }
}
