/** Promises 2 and 3. */
public final class FormatTextTest {
    public static void main(String[] arguments) {
        clearing();
        putting();
        anyChar();
        full();
        Check.finish();
    }

    /** An object of which everything that can be seen differs from a fresh one. */
    private static Check used() {
        Check check = Check.fresh(256).compiled("a%d %d").args(11, -22, 33).input("a5 6 rest");
        check.x.render();
        check.x.scan();
        return check;
    }

    private static void clearing() {
        Check check = used();
        check.x.clearFormat();
        Check.due("argCount after clearFormat", check.x.argCount(), 0);
        Check.due("entryKind after clearFormat", check.x.entryKind(0), -1);
        Check.due("render after clearFormat", check.x.render(), FormatScanner.ERR_NOT_COMPILED);
        Check.due("scan after clearFormat", check.x.scan(), FormatScanner.ERR_NOT_COMPILED);
        othersKept("clearFormat", check);
        Check.due("compile after clearFormat", check.x.compile(), 0);
        check.format("x").x.clearFormat();
        Check.due("putFormatChar after clearFormat", check.x.putFormatChar('y'), 1);
        argsAndInputKept("clearFormat", check);
    }

    private static void putting() {
        Check check = used();
        Check.due("putFormatChar on a compiled format", check.x.putFormatChar('z'), 7);
        Check.due("argCount after putFormatChar", check.x.argCount(), 0);
        Check.due("entryKind after putFormatChar", check.x.entryKind(0), -1);
        Check.due("render after putFormatChar", check.x.render(), FormatScanner.ERR_NOT_COMPILED);
        Check.due("scan after putFormatChar", check.x.scan(), FormatScanner.ERR_NOT_COMPILED);
        othersKept("putFormatChar", check);
        Check.due("compile of the longer format", check.x.compile(), 5);
        argsAndInputKept("putFormatChar", check);
    }

    private static void othersKept(String call, Check check) {
        Check.due("out after " + call, check.out(), "a11 -22");
        Check.due("scanMask after " + call, check.x.scanMask(), 3);
        Check.due("scanEnd after " + call, check.x.scanEnd(), 4);
        Check.due("scanned(0) after " + call, check.x.scanned(0), 5L);
        Check.due("scanned(1) after " + call, check.x.scanned(1), 6L);
    }

    private static void argsAndInputKept(String call, Check check) {
        check.compiled("%d %d %d");
        check.x.render();
        Check.due("args after " + call, check.out(), "11 -22 33");
        check.compiled("a%d %d rest");
        Check.due("scan of the input after " + call, check.x.scan(), 2);
        Check.due("scanEnd of the input after " + call, check.x.scanEnd(), 9);
    }

    private static void anyChar() {
        for (int c = 0; c <= Character.MAX_VALUE; c++) {
            if (c == '%') {
                continue;
            }
            Check check = Check.fresh(16);
            Check.due("putFormatChar of char " + c, check.x.putFormatChar((char) c), 1);
            Check.due("compile of char " + c, check.x.compile(), 1);
            Check.due("render of char " + c, check.x.render(), 1);
            Check.due("outChar of char " + c, check.x.outChar(0), (char) c);
        }
    }

    private static void full() {
        Check check = Check.fresh(64);
        for (int length = 1; length <= 64; length++) {
            Check.due("putFormatChar " + length, check.x.putFormatChar('a'), length);
        }
        Check.due("putFormatChar 65", check.x.putFormatChar('b'), FormatScanner.ERR_FULL);
        Check.due("compile of a full format", check.x.compile(), 1);
        Check.due("putFormatChar on a full compiled format", check.x.putFormatChar('b'), FormatScanner.ERR_FULL);
        Check.due("a full format stays compiled", check.x.entryKind(0), FormatScanner.KIND_LITERAL);
        Check.due("render of a full format", check.x.render(), 64);
        Check.due("text of a full format", check.out(), "a".repeat(64));
        check.x.clearFormat();
        Check.due("putFormatChar after a full format was cleared", check.x.putFormatChar('b'), 1);
    }
}
