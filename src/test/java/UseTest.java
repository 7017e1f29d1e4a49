/** What README.md shows: its example, and the errors of compile in the order of its table. */
public final class UseTest {
    public static void main(String[] arguments) {
        example();
        positions();
        compileErrors();
        Check.finish();
    }

    private static void example() {
        Check check = Check.fresh(64);
        FormatScanner x = check.x;
        for (char c : "%05d %#x".toCharArray()) {
            x.putFormatChar(c);
        }
        Check.due("compile", x.compile(), 3);
        Check.due("setArg(0, -42)", x.setArg(0, -42), true);
        Check.due("setArg(1, 255)", x.setArg(1, 255), true);
        Check.due("render", x.render(), 10);
        Check.due("the output", check.out(), "-0042 0xff");
        Check.due("copyOutputToInput", x.copyOutputToInput(), 10);
        Check.due("scan", x.scan(), 2);
        Check.due("scanned(0)", x.scanned(0), -42L);
        Check.due("scanned(1)", x.scanned(1), 255L);
        Check.due("scanMask", x.scanMask(), 3);
        Check.due("scanEnd", x.scanEnd(), 10);
    }

    private static void positions() {
        Check.renders("%2$*1$d", "   42", 5, 42);
        Check.renders("%*d", "   42", 5, 42);
    }

    private static void compileErrors() {
        Check.compiles("%5", FormatScanner.ERR_TRUNCATED);
        Check.compiles("%q", FormatScanner.ERR_BAD_CONV);
        Check.compiles("%9$d", FormatScanner.ERR_BAD_POS);
        Check.compiles("%1$d %d", FormatScanner.ERR_MIXED);
        Check.compiles("%100d", FormatScanner.ERR_BAD_WIDTH);
        Check.compiles("%.100d", FormatScanner.ERR_BAD_WIDTH);
        // Of the two reasons in this row, a 17th directive does not fit into 64 chars.
        Check.compiles("%d%d%d%d%d%d%d%d%d", FormatScanner.ERR_TOO_MANY);
        Check.compiles("%2$d", FormatScanner.ERR_GAP);
        Check.compiles("%lc", FormatScanner.ERR_BAD_LENGTH);
        Check.compiles("%ls", FormatScanner.ERR_BAD_LENGTH);
    }
}
