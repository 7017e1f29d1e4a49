/** Promise 1. */
public final class ConstructionTest {
    public static void main(String[] arguments) {
        capacityIs(Integer.MIN_VALUE, 16);
        capacityIs(-1, 16);
        capacityIs(0, 16);
        capacityIs(15, 16);
        capacityIs(16, 16);
        capacityIs(17, 17);
        capacityIs(100, 100);
        capacityIs(255, 255);
        capacityIs(256, 256);
        capacityIs(257, 256);
        capacityIs(Integer.MAX_VALUE, 256);
        freshObject();
        Check.finish();
    }

    private static void capacityIs(int cap, int want) {
        Check check = Check.fresh(cap).compiled("%*d%*d%*d");
        fill(check, want);
        Check.due("render of " + want + " chars, cap " + cap, check.x.render(), want);
        fill(check, want + 1);
        Check.due("render of " + (want + 1) + " chars, cap " + cap, check.x.render(), FormatScanner.ERR_OVERFLOW);
    }

    private static void fill(Check check, int total) {
        int first = Math.min(total - 2, 99);
        int second = Math.min(total - first - 1, 99);
        check.args(first, 0, second, 0, total - first - second, 0);
    }

    private static void freshObject() {
        Check check = Check.fresh(64);
        Check.due("fresh argCount", check.x.argCount(), 0);
        Check.due("fresh entryKind(0)", check.x.entryKind(0), -1);
        Check.due("fresh render", check.x.render(), FormatScanner.ERR_NOT_COMPILED);
        Check.due("fresh scan", check.x.scan(), FormatScanner.ERR_NOT_COMPILED);
        Check.due("fresh outLength", check.x.outLength(), 0);
        Check.due("fresh outChar(0)", check.x.outChar(0), (char) 0);
        Check.due("fresh scanMask", check.x.scanMask(), 0);
        Check.due("fresh scanEnd", check.x.scanEnd(), 0);
        for (int slot = -1; slot <= 8; slot++) {
            Check.due("fresh scanned(" + slot + ")", check.x.scanned(slot), 0L);
        }
        Check.due("compile of the fresh format", check.x.compile(), 0);
        check.compiled("%d%d%d%d%d%d%d%d");
        check.x.render();
        Check.due("the fresh args", check.out(), "00000000");
        check.compiled("%c");
        Check.due("scan of the fresh input", check.x.scan(), 0);
        Check.due("first putInputChar", check.x.putInputChar('a'), 1);
        Check.due("first putFormatChar", Check.fresh(64).x.putFormatChar('a'), 1);
    }
}
