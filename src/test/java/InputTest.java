/** Promises 10, 11 and 12. */
public final class InputTest {
    public static void main(String[] arguments) {
        clearing();
        putting();
        anyChar();
        full();
        copying();
        Check.finish();
    }

    private static Check used() {
        Check check = Check.fresh(256).compiled("%d,%d").args(31, 42).input("7,8,9");
        check.x.render();
        check.x.scan();
        return check;
    }

    private static void clearing() {
        Check check = used();
        String before = check.seen();
        check.x.clearInput();
        Check.due("seen after clearInput", check.seen(), before);
        check.scanIs("scan of the cleared input", 0, 0, 0);
        Check.due("putInputChar after clearInput", check.x.putInputChar('5'), 1);
        check.scanIs("scan of the new input", 1, 1, 1, 5);
        check.x.render();
        Check.due("args after clearInput", check.out(), "31,42");
    }

    private static void putting() {
        Check check = used();
        String before = check.seen();
        Check.due("putInputChar", check.x.putInputChar('1'), 6);
        Check.due("seen after putInputChar", check.seen(), before);
        check.compiled("%d,%d,%d");
        check.scanIs("scan of the longer input", 3, 7, 6, 7, 8, 91);
    }

    private static void anyChar() {
        Check check = Check.fresh(16).compiled("%c");
        for (int c = 0; c <= Character.MAX_VALUE; c++) {
            check.x.clearInput();
            Check.due("putInputChar of char " + c, check.x.putInputChar((char) c), 1);
            check.scanIs("scan of char " + c, 1, 1, 1, c);
        }
    }

    private static void full() {
        Check check = Check.fresh(16).compiled("%ld");
        for (int length = 1; length <= 256; length++) {
            Check.due("putInputChar " + length, check.x.putInputChar(length == 256 ? '7' : '0'), length);
        }
        Check.due("putInputChar 257", check.x.putInputChar('9'), FormatScanner.ERR_FULL);
        Check.due("putInputChar 258", check.x.putInputChar('9'), FormatScanner.ERR_FULL);
        check.scanIs("scan of a full input", 1, 1, 256, 7);
        check.x.clearInput();
        Check.due("putInputChar after a full input was cleared", check.x.putInputChar('9'), 1);
    }

    private static void copying() {
        Check check = used();
        String before = check.seen();
        Check.due("copyOutputToInput", check.x.copyOutputToInput(), 5);
        Check.due("seen after copyOutputToInput", check.seen(), before);
        check.scanIs("scan of the copy", 2, 3, 5, 31, 42);
        Check.due("putInputChar behind the copy", check.x.putInputChar('0'), 6);
        check.scanIs("scan of the copy with one char more", 2, 3, 6, 31, 420);
        Check.due("out after the char", check.out(), "31,42");
        check.compiled("");
        check.x.render();
        Check.due("copyOutputToInput of no char", check.x.copyOutputToInput(), 0);
        check.compiled("%c");
        check.scanIs("scan of the empty copy", 0, 0, 0);
        check.compiled("%99d%99d%58d");
        check.x.render();
        Check.due("copyOutputToInput of 256 chars", check.x.copyOutputToInput(), 256);
        Check.due("putInputChar behind 256 chars", check.x.putInputChar('0'), FormatScanner.ERR_FULL);
        check.scanIs("scan of 256 chars", 3, 7, 256, 31, 42, 0);
    }
}
