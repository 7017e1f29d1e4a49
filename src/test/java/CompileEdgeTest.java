/** The boundary cases of the promises 4, 5 and 6, a test for each sentence that names one. */
public final class CompileEdgeTest {
    private static final int TRUNCATED = FormatScanner.ERR_TRUNCATED;
    private static final int BAD_CONV = FormatScanner.ERR_BAD_CONV;
    private static final int BAD_POS = FormatScanner.ERR_BAD_POS;
    private static final int MIXED = FormatScanner.ERR_MIXED;
    private static final int BAD_WIDTH = FormatScanner.ERR_BAD_WIDTH;
    private static final int TOO_MANY = FormatScanner.ERR_TOO_MANY;
    private static final int GAP = FormatScanner.ERR_GAP;
    private static final int BAD_LENGTH = FormatScanner.ERR_BAD_LENGTH;
    private static final int NOT_COMPILED = FormatScanner.ERR_NOT_COMPILED;
    private static final int[] FAR_OUTSIDE = {-2, -64, -256, 65, 255, 256, 65536, Integer.MIN_VALUE, Integer.MAX_VALUE};

    public static void main(String[] arguments) {
        errorLeavesNotCompiled();
        errorThenAGoodFormat();
        emptyFormat();
        doubledPercent();
        positionNeedsANonemptyRun();
        positionWithin1To8();
        positionNeedsItsDollarAtOnce();
        flagsMayRepeat();
        widthStarPosition();
        widthStarAlone();
        widthUpTo99();
        widthDoesNotStartWithZero();
        widthStarForbidsAWidth();
        precisionOfAnEmptyRun();
        precisionUpTo99();
        precisionStarPosition();
        lengthOnce();
        truncated();
        everyConversion();
        badLength();
        sixteenDirectives();
        usesInTheirOrder();
        firstUseFixesTheMode();
        ninthSequentialUse();
        ordersWithinADirective();
        ordersOfTheUses();
        ordersOfDirectives();
        gaps();
        argCounts();
        literalRuns();
        mostEntries();
        argCountIfNotCompiled();
        kindOutsideTheTable();
        kindOfEveryEntry();
        Check.finish();
    }

    private static void refused(String format, int want) {
        FormatScanner x = Check.fresh(256).compiled("a%d").format(format).x;
        Check.due("compile of '" + format + "'", x.compile(), want);
        Check.due("render after '" + format + "'", x.render(), NOT_COMPILED);
        Check.due("scan after '" + format + "'", x.scan(), NOT_COMPILED);
        Check.due("argCount after '" + format + "'", x.argCount(), 0);
        for (int i = -1; i <= 64; i++) {
            Check.due("entryKind(" + i + ") after '" + format + "'", x.entryKind(i), -1);
        }
        Check.due("compile of '" + format + "' again", x.compile(), want);
    }

    private static void accepted(String format, int entries, int args) {
        FormatScanner x = Check.with(format).x;
        Check.due("compile of '" + format + "'", x.compile(), entries);
        Check.due("argCount of '" + format + "'", x.argCount(), args);
        Check.due("the last entryKind of '" + format + "'", x.entryKind(entries - 1) >= 0, entries > 0);
        Check.due("the entryKind behind '" + format + "'", x.entryKind(entries), -1);
    }

    /** "On an error: answers the error and the state becomes not compiled." */
    private static void errorLeavesNotCompiled() {
        refused("%", TRUNCATED);
        refused("%d%y", BAD_CONV);
        refused("%9$d", BAD_POS);
        refused("%d%1$d", MIXED);
        refused("%100d", BAD_WIDTH);
        refused("%d%d%d%d%d%d%d%d%d", TOO_MANY);
        refused("%1$d%3$d", GAP);
        refused("a%ls", BAD_LENGTH);
    }

    /** What an error has left does not show in the next table: neither its uses, nor its entries, nor its mode. */
    private static void errorThenAGoodFormat() {
        String[] bad = {"%d%d%d%d%d%d%d%d%d", "%1$d%3$d", "%d%1$d", "%1$d%d", "abc%", "%-+ 0#9.9y", "%8$d%8$d"};
        for (String format : bad) {
            Check check = Check.fresh(256).compiled(format).args(7);
            check.compiled("%d");
            Check.due("argCount after '" + format + "'", check.x.argCount(), 1);
            Check.due("render after '" + format + "'", check.x.render(), 1);
            check.compiled("%1$d");
            Check.due("positional argCount after '" + format + "'", check.x.argCount(), 1);
            check.compiled(format);
            check.compiled("xy");
            Check.due("literal argCount after '" + format + "'", check.x.argCount(), 0);
            Check.due("literal render after '" + format + "'", check.x.render(), 2);
            Check.due("literal text after '" + format + "'", check.out(), "xy");
        }
    }

    /** "the answer is the number of entries (0 for an empty fmt)" */
    private static void emptyFormat() {
        accepted("", 0, 0);
        Check check = Check.fresh(16).compiled("%d").compiled("");
        Check.due("entryKind(0) of an empty table", check.x.entryKind(0), -1);
        Check.due("render by an empty table", check.x.render(), 0);
        Check.due("scan by an empty table", check.x.scan(), 0);
    }

    /** "'%' followed by '%' is the literal char '%'; i += 2." */
    private static void doubledPercent() {
        for (int percents = 1; percents <= 64; percents++) {
            Check.compiles("%".repeat(percents), percents % 2 == 0 ? 1 : TRUNCATED);
        }
        for (int percents = 1; percents <= 63; percents++) {
            Check.compiles("%".repeat(percents) + "d", percents == 1 || percents % 2 == 0 ? 1 : 2);
        }
        Check.compiles("% %", BAD_CONV);
        Check.compiles("%1$%", BAD_CONV);
        Check.compiles("%5%", BAD_CONV);
        Check.compiles("%.%", BAD_CONV);
        Check.compiles("%*%", BAD_CONV);
        Check.compiles("%l%", BAD_CONV);
        Check.renders("%%d%%%d", "%d%5", 5);
    }

    /** "if a nonempty digit run starts at j": a '$' with no run before it is no position. */
    private static void positionNeedsANonemptyRun() {
        refused("%$d", BAD_CONV);
        refused("%$", BAD_CONV);
        refused("%1$$d", BAD_CONV);
        refused("%-$d", BAD_CONV);
    }

    /** "its value p must be 1..8, else ERR_BAD_POS" */
    private static void positionWithin1To8() {
        refused("%0$d", BAD_POS);
        refused("%00$d", BAD_POS);
        refused("%9$d", BAD_POS);
        refused("%10$d", BAD_POS);
        refused("%18$d", BAD_POS);
        refused("%80$d", BAD_POS);
        accepted("%1$d", 1, 1);
        accepted("%08$d%7$d%6$d%5$d%4$d%3$d%2$d%01$d", 8, 8);
    }

    /** "followed at once by '$'" and "Otherwise j stays": the same digits are flags and a width then. */
    private static void positionNeedsItsDollarAtOnce() {
        refused("%1 $d", BAD_CONV);
        refused("%1-$d", BAD_CONV);
        refused("%1.$d", BAD_CONV);
        refused("%1l$d", BAD_CONV);
        refused("%1$1$d", BAD_CONV);
        refused("%01", TRUNCATED);
        Check.renders("%03d|%3d|%003d", "005|  5|005", 5, 5, 5);
        Check.renders("%9d", "        5", 5);
        Check.renders("%0d", "5", 5);
    }

    /** "that flag is set and j += 1 (repeats are allowed)" */
    private static void flagsMayRepeat() {
        for (String flag : new String[] {"-", "+", " ", "0", "#"}) {
            Check.compiles("%" + flag + "d", 1);
            Check.compiles("%" + flag.repeat(62) + "d", 1);
            Check.compiles("%" + flag.repeat(63), TRUNCATED);
            Check.compiles("%1$" + flag.repeat(3) + "d", 1);
            Check.compiles("%5" + flag + "d", flag.equals("0") ? 1 : BAD_CONV);
            Check.compiles("%.5" + flag + "d", flag.equals("0") ? 1 : BAD_CONV);
            Check.compiles("%l" + flag + "d", BAD_CONV);
        }
        Check.renders("%+-+-5d|%0-05d|%-0-5d|", "+7   |7    |7    |", 7, 7, 7);
        Check.renders("%0 0 5d|%##x|%#0#5x", " 0007|0x7|0x007", 7, 7, 7);
        Check.renders("%-+ 0#5d|%#0 +-5d|", "+7   |+7   |", 7, 7);
    }

    /** "its value must be 1..8 (else ERR_BAD_POS); it is the star's position" */
    private static void widthStarPosition() {
        refused("%1$*0$d", BAD_POS);
        refused("%1$*9$d", BAD_POS);
        refused("%*0$d", BAD_POS);
        refused("%*10$d", BAD_POS);
        accepted("%1$*1$d", 1, 1);
        Check.renders("%2$d%3$d%4$d%5$d%6$d%7$d%1$*8$d", "000000  9", 9, 0, 0, 0, 0, 0, 0, 3);
    }

    /** "If the star has no such run followed by '$', j stays and the star has no position." */
    private static void widthStarAlone() {
        refused("%*$d", BAD_CONV);
        refused("%*1d", BAD_CONV);
        refused("%*0d", BAD_CONV);
        refused("%*9", BAD_CONV);
        refused("%*", TRUNCATED);
        accepted("%*d", 1, 2);
        accepted("%*.1d", 1, 2);
        accepted("%*ld", 1, 2);
    }

    /** "the digit run from j is the width and j moves past it; a value over 99 is ERR_BAD_WIDTH" */
    private static void widthUpTo99() {
        Check.renders("%99d", " ".repeat(98) + "7", 7);
        Check.renders("%1d|%2d|%9d|%10d", "7| 7|        7|         7", 7, 7, 7, 7);
        refused("%100d", BAD_WIDTH);
        refused("%1$100d", BAD_WIDTH);
        refused("%-0100d", BAD_WIDTH);
        refused("%990d", BAD_WIDTH);
    }

    /** "if fmt[j] is '1'..'9'" and "Else no width": zeros before it are flags. */
    private static void widthDoesNotStartWithZero() {
        Check.renders("%00099d", "0".repeat(98) + "7", 7);
        Check.renders("%0000d", "7", 7);
        Check.renders("%0000s|", "a|", 'a');
        Check.renders("%1$d%1$0d", "77", 7);
    }

    /** "A directive with a width star never also reads a digit width." */
    private static void widthStarForbidsAWidth() {
        refused("%*5d", BAD_CONV);
        refused("%*100d", BAD_CONV);
        refused("%1$*1$5d", BAD_CONV);
        refused("%1$*1$100d", BAD_CONV);
        refused("%1$*1$1$d", BAD_CONV);
        refused("%5*d", BAD_CONV);
        refused("%**d", BAD_CONV);
    }

    /** "(an empty run has value 0)" */
    private static void precisionOfAnEmptyRun() {
        Check.renders("[%.d|%.0d|%.000d]", "[||]", 0, 0, 0);
        Check.renders("[%.u|%.x|%.X|%.o|%.ld]", "[||||]", 0, 0, 0, 0, 0);
        Check.renders("[%.s|%5.s]", "[|     ]", 'a', 'a');
        Check.renders("%05.d", "    7", 7);
        refused("%.", TRUNCATED);
        refused("%.-1d", BAD_CONV);
        refused("%.$d", BAD_CONV);
        refused("%.1$d", BAD_CONV);
        refused("%..d", BAD_CONV);
    }

    /** "a value over 99 is ERR_BAD_WIDTH", of a precision. */
    private static void precisionUpTo99() {
        Check.renders("%.99d", "0".repeat(98) + "7", 7);
        Check.renders("%.099d", "0".repeat(98) + "7", 7);
        refused("%.100d", BAD_WIDTH);
        refused("%.0100d", BAD_WIDTH);
        refused("%5.100s", BAD_WIDTH);
        refused("%*.100c", BAD_WIDTH);
    }

    /** "Then either a precision star as in 3" */
    private static void precisionStarPosition() {
        refused("%1$.*0$d", BAD_POS);
        refused("%1$.*9$d", BAD_POS);
        refused("%.*10$d", BAD_POS);
        refused("%.*$d", BAD_CONV);
        refused("%.*1d", BAD_CONV);
        refused("%.*1$1d", BAD_CONV);
        refused("%.1*d", BAD_CONV);
        refused("%.**d", BAD_CONV);
        refused("%.*", TRUNCATED);
        accepted("%.*d", 1, 2);
        accepted("%1$.*1$d", 1, 1);
        Check.renders("%2$d%3$d%4$d%5$d%6$d%7$d%1$.*8$d", "000000009", 9, 0, 0, 0, 0, 0, 0, 3);
    }

    /** "if fmt[j] is 'l', the directive is long and j += 1": one 'l', and it stands last. */
    private static void lengthOnce() {
        refused("%l", TRUNCATED);
        refused("%lld", BAD_CONV);
        refused("%l1d", BAD_CONV);
        refused("%l.1d", BAD_CONV);
        refused("%l*d", BAD_CONV);
        Check.renders("%5.3ld", "  007", 7);
    }

    /** "if j = length of fmt, ERR_TRUNCATED" after every part that a directive may have. */
    private static void truncated() {
        String[] cut = {"%", "%1$", "%-", "%1$-", "%*", "%1$*1$", "%9", "%99", "%.", "%.9", "%.*", "%1$.*1$", "%l",
            "%1$-+ 0#*1$.*1$l", "%-99.99l", "%*.*l"};
        for (String format : cut) {
            refused(format, TRUNCATED);
            refused("%%" + format, TRUNCATED);
            refused("a".repeat(64 - format.length()) + format, TRUNCATED);
        }
    }

    /** "fmt[j] must be d, u, x, X, o, c or s, else ERR_BAD_CONV." */
    private static void everyConversion() {
        for (int c = 0; c <= Character.MAX_VALUE; c++) {
            boolean good = "duxXocs".indexOf(c) >= 0;
            // Behind a star, every char but 'l' is read as the conversion: a digit has no '$' here.
            if (c != 'l') {
                Check.compiles("%.*" + (char) c, good ? 1 : BAD_CONV);
            }
        }
        for (char c : "DUOCSiIfFeEgGpnaAbBhjztLq".toCharArray()) {
            refused("%" + c, BAD_CONV);
        }
    }

    /** "A c or s after 'l' is ERR_BAD_LENGTH." */
    private static void badLength() {
        refused("%lc", BAD_LENGTH);
        refused("%ls", BAD_LENGTH);
        refused("%1$-5.5ls", BAD_LENGTH);
        refused("%lC", BAD_CONV);
        refused("%lS", BAD_CONV);
        accepted("%c%s", 2, 2);
    }

    /** "if this is the 17th directive, ERR_TOO_MANY": 64 chars hold 16 at most, and these are accepted. */
    private static void sixteenDirectives() {
        String format = "%1$d%2$u%3$x%4$X%5$o%6$c%7$s%8$d".repeat(2);
        accepted(format, 16, 8);
        accepted("%1$d".repeat(16), 16, 1);
        Check check = Check.fresh(16).compiled(format).args(1, 2, 3, 4, 5, 'c', 's', 8);
        for (int i = 0; i < 16; i++) {
            Check.due("entryKind(" + i + ") of 16", check.x.entryKind(i), (int) "duxXocsd".charAt(i % 8));
        }
        Check.due("entryKind(16) of 16", check.x.entryKind(16), -1);
        Check.due("putFormatChar behind 16 directives", check.x.putFormatChar('%'), FormatScanner.ERR_FULL);
        Check.due("render of 16 directives", check.x.render(), 16);
        Check.due("text of 16 directives", check.out(), "12345cs812345cs8");
        check.compiled("%1$d".repeat(16)).input("1 2 3 4 5 6 7 8 9 1 2 3 4 5 6 70");
        check.scanIs("scan by 16 directives", 16, 1, 32, 70);
        String fifteen = "%1$d".repeat(15);
        refused(fifteen + "%9$d", BAD_POS);
        refused(fifteen + "%1$y", BAD_CONV);
        refused(fifteen + "%1$", TRUNCATED);
        refused(fifteen + "%100", BAD_WIDTH);
        refused(fifteen + "%ls", BAD_LENGTH);
        refused(fifteen + "%d", MIXED);
        refused(fifteen + "%3$d", GAP);
        accepted(fifteen + "%2$d", 16, 2);
        accepted(fifteen + "abcd", 16, 1);
    }

    /** "in the order width star, precision star, value" and "Sequential uses get slots 0, 1, 2, .. in this order" */
    private static void usesInTheirOrder() {
        Check.renders("%*.*d|%d", "  007|8", 5, 3, 7, 8);
        Check.renders("%d|%.*d|%*d", "1|003|   5", 1, 3, 3, 4, 5);
        Check.renders("%*.*d%*.*d%*d", " 01  002   3", 3, 2, 1, 5, 3, 2, 4, 3);
        Check.renders("%3$*1$.*2$d|%4$d", "  007|8", 5, 3, 7, 8);
    }

    /** "The first use in the format fixes the mode, and a later use of the other mode is ERR_MIXED." */
    private static void firstUseFixesTheMode() {
        refused("%1$d%d", MIXED);
        refused("%d%1$d", MIXED);
        refused("%1$*d", MIXED);
        refused("%*1$d", MIXED);
        refused("%1$.*d", MIXED);
        refused("%.*1$d", MIXED);
        refused("%1$*1$.*d", MIXED);
        refused("%1$*.*1$d", MIXED);
        refused("%*1$.*1$d", MIXED);
        refused("%*.*1$d", MIXED);
        refused("%*1$.*d", MIXED);
        refused("%1$*.*d", MIXED);
        refused("%1$d %% %1$d%d", MIXED);
        refused("%d%d%d%d%d%d%d%1$d", MIXED);
        accepted("%1$*1$.*1$d", 1, 1);
        accepted("%*.*d", 1, 3);
    }

    /** "the 9th sequential use is ERR_TOO_MANY": as a value, as a width star and as a precision star. */
    private static void ninthSequentialUse() {
        accepted("%d".repeat(8), 8, 8);
        refused("%d".repeat(9), TOO_MANY);
        accepted("%d".repeat(6) + "%*d", 7, 8);
        refused("%d".repeat(7) + "%*d", TOO_MANY);
        refused("%d".repeat(8) + "%*d", TOO_MANY);
        accepted("%d".repeat(6) + "%.*d", 7, 8);
        refused("%d".repeat(7) + "%.*d", TOO_MANY);
        accepted("%d".repeat(5) + "%*.*d", 6, 8);
        refused("%d".repeat(6) + "%*.*d", TOO_MANY);
        refused("%d".repeat(7) + "%*.*d", TOO_MANY);
        refused("%d".repeat(8) + "%*.*d", TOO_MANY);
        refused("%d".repeat(32), TOO_MANY);
        accepted("%d".repeat(8) + "%%".repeat(24), 9, 8);
        accepted("%1$*1$.*1$d".repeat(5), 5, 1);
    }

    /** "The first error met in this order is the answer": the parts of one directive. */
    private static void ordersWithinADirective() {
        refused("%9$100d", BAD_POS);
        refused("%0$.100y", BAD_POS);
        refused("%9$", BAD_POS);
        refused("%9$y", BAD_POS);
        refused("%9$ls", BAD_POS);
        refused("%1$100.*9$d", BAD_WIDTH);
        refused("%*9$.100d", BAD_POS);
        refused("%*9$", BAD_POS);
        refused("%*9$y", BAD_POS);
        refused("%100", BAD_WIDTH);
        refused("%100y", BAD_WIDTH);
        refused("%100ls", BAD_WIDTH);
        refused("%.*9$", BAD_POS);
        refused("%.*9$y", BAD_POS);
        refused("%.*9$ls", BAD_POS);
        refused("%.100", BAD_WIDTH);
        refused("%.100y", BAD_WIDTH);
        refused("%.100ls", BAD_WIDTH);
        refused("%1$*l", TRUNCATED);
        refused("%1$*ly", BAD_CONV);
        refused("%1$*ls", BAD_LENGTH);
        refused("%1$*lx", MIXED);
    }

    /** The same: the checks come after the conversion, and the uses in their own order. */
    private static void ordersOfTheUses() {
        String eight = "%d".repeat(8);
        refused(eight + "%", TRUNCATED);
        refused(eight + "%y", BAD_CONV);
        refused(eight + "%lc", BAD_LENGTH);
        refused(eight + "%100d", BAD_WIDTH);
        refused(eight + "%1$d", MIXED);
        refused(eight + "%9$d", BAD_POS);
        refused(eight + "%1$*d", TOO_MANY);
        refused(eight + "%*1$d", MIXED);
        refused(eight + "%*1$.*d", MIXED);
        refused(eight + "%*.*1$d", TOO_MANY);
        refused("%d".repeat(7) + "%*.*1$d", MIXED);
        refused("%d".repeat(7) + "%1$*.*d", TOO_MANY);
        refused("%d".repeat(6) + "%1$*.*d", MIXED);
        refused("%2$d%d", MIXED);
        refused("%8$*d", MIXED);
    }

    /** The same: an earlier directive goes before a later one, and a gap is looked for at the end alone. */
    private static void ordersOfDirectives() {
        refused("%y%9$d", BAD_CONV);
        refused("%ls%", BAD_LENGTH);
        refused("%100d%y", BAD_WIDTH);
        refused("%d%1$d%9$d", MIXED);
        refused("%d".repeat(9) + "%y", TOO_MANY);
        refused("%9$d%", BAD_POS);
        refused("%2$d%y", BAD_CONV);
        refused("%2$d%", TRUNCATED);
        refused("%2$d%9$d", BAD_POS);
        refused("%2$d%100d", BAD_WIDTH);
        refused("%2$d%lc", BAD_LENGTH);
        refused("%2$dabc", GAP);
    }

    /** "if some p from 1 to the greatest position used is used by no use, ERR_GAP" */
    private static void gaps() {
        for (int used = 1; used < 256; used++) {
            int lowest = Integer.numberOfTrailingZeros(used) + 1;
            StringBuilder upwards = new StringBuilder();
            StringBuilder downwards = new StringBuilder();
            StringBuilder widthStars = new StringBuilder();
            StringBuilder precisionStars = new StringBuilder();
            for (int p = 1; p <= 8; p++) {
                if ((used >> (p - 1) & 1) == 1) {
                    upwards.append("%" + p + "$d");
                    downwards.insert(0, "%" + p + "$d");
                    widthStars.append("%" + lowest + "$*" + p + "$d");
                    precisionStars.append("%" + lowest + "$.*" + p + "$d");
                }
            }
            boolean whole = (used & (used + 1)) == 0;
            int want = whole ? Integer.bitCount(used) : GAP;
            Check.compiles(upwards.toString(), want);
            Check.compiles(downwards.toString(), want);
            Check.compiles(widthStars.toString(), want);
            Check.compiles(precisionStars.toString(), want);
        }
        accepted("%2$*1$d", 1, 2);
        accepted("%1$*2$d", 1, 2);
        accepted("%2$.*1$d", 1, 2);
        accepted("%1$*3$.*2$d", 1, 3);
        refused("%1$*3$d", GAP);
        refused("%1$.*3$d", GAP);
        refused("%2$*3$.*4$d", GAP);
        refused("%1$*8$.*7$d%2$*6$.*5$d%3$d", GAP);
        accepted("%1$*8$.*7$d%2$*6$.*5$d%3$d%4$d", 4, 8);
    }

    /** "the greatest position used in positional mode, the number of uses in sequential mode, and 0 otherwise" */
    private static void argCounts() {
        accepted("abc", 1, 0);
        accepted("%%", 1, 0);
        accepted("%1$d%1$d%1$d", 3, 1);
        accepted("%2$d%1$d%2$d", 3, 2);
        accepted("%1$*2$.*3$d", 1, 3);
        accepted("%8$d%7$d%6$d%5$d%4$d%3$d%2$d%1$d", 8, 8);
        accepted("%d", 1, 1);
        accepted("%*d", 1, 2);
        accepted("%*.*d", 1, 3);
        accepted("%*.*d%*.*d%*d", 3, 8);
    }

    /** "each maximal run of consecutive literal chars (a %% counts as one literal '%') is one literal entry" */
    private static void literalRuns() {
        accepted("a", 1, 0);
        accepted("a".repeat(64), 1, 0);
        accepted("%%".repeat(32), 1, 0);
        accepted("a%%b%%%%c", 1, 0);
        accepted("%%%d%%", 3, 1);
        accepted("%d%d", 2, 2);
        accepted("a%d%db", 4, 2);
        Check.renders("%%a%d%%%%b%d%%", "%a1%%b2%", 1, 2);
        Check.renders("%%".repeat(31) + "%d", "%".repeat(31) + "7", 7);
    }

    /** The table of a full format that has the most entries. */
    private static void mostEntries() {
        String format = "a%1$d".repeat(12) + "bcde";
        accepted(format, 25, 1);
        Check check = Check.fresh(256).compiled(format).args(7);
        for (int i = 0; i < 25; i++) {
            Check.due("entryKind(" + i + ") of 25", check.x.entryKind(i), i % 2 == 0 ? 0 : 100);
        }
        Check.due("render of 25 entries", check.x.render(), 28);
        Check.due("text of 25 entries", check.out(), "a7".repeat(12) + "bcde");
    }

    /** "Answers argCount if compiled, else 0." */
    private static void argCountIfNotCompiled() {
        Check check = Check.fresh(16).compiled("%d%d%d");
        Check.due("argCount if compiled", check.x.argCount(), 3);
        check.x.putFormatChar('a');
        Check.due("argCount after putFormatChar", check.x.argCount(), 0);
        check.x.compile();
        Check.due("argCount after compile", check.x.argCount(), 3);
        check.x.clearFormat();
        Check.due("argCount after clearFormat", check.x.argCount(), 0);
        check.compiled("%d%d%");
        Check.due("argCount after an error", check.x.argCount(), 0);
    }

    /** "Answers -1 if not compiled or if i is outside 0..entries-1 (including any negative i)." */
    private static void kindOutsideTheTable() {
        String[] formats = {"", "a", "%d", "a%d", "a%d%ld%%", "%1$d".repeat(16)};
        for (String format : formats) {
            Check check = Check.fresh(16).compiled("%1$d".repeat(16));
            check.format(format);
            for (int i = -70; i <= 70; i++) {
                Check.due("entryKind(" + i + ") of '" + format + "' not compiled", check.x.entryKind(i), -1);
            }
            int entries = check.x.compile();
            for (int i = -70; i <= 70; i++) {
                Check.due("entryKind(" + i + ") of '" + format + "' is -1", check.x.entryKind(i) == -1, i < 0 || i >= entries);
            }
            for (int i : FAR_OUTSIDE) {
                Check.due("entryKind(" + i + ") of '" + format + "'", check.x.entryKind(i), -1);
            }
        }
    }

    /** "the conversion char's code (for example 'd' is 100), plus KIND_LONG if the entry is long" */
    private static void kindOfEveryEntry() {
        for (char c : "duxXocs".toCharArray()) {
            Check.due("entryKind of " + c, Check.fresh(16).compiled("%" + c).x.entryKind(0), (int) c);
        }
        for (char c : "duxXo".toCharArray()) {
            Check.due("entryKind of l" + c, Check.fresh(16).compiled("%-+ 0#9.9l" + c).x.entryKind(0), c + 256);
        }
        Check.due("entryKind of d is 100", Check.fresh(16).compiled("%d").x.entryKind(0), 100);
        Check.due("entryKind of a literal d", Check.fresh(16).compiled("d").x.entryKind(0), 0);
        Check.due("entryKind of %%", Check.fresh(16).compiled("%%").x.entryKind(0), 0);
        Check.due("entryKind of a literal char 0", Check.fresh(16).compiled("\0").x.entryKind(0), 0);
    }
}
