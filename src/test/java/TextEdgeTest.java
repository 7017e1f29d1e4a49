/** The boundary cases of the promises 1, 2, 3, 10, 11 and 12, a test for each sentence that names one. */
public final class TextEdgeTest {
    private static final int FULL = FormatScanner.ERR_FULL;
    private static final int NOT_COMPILED = FormatScanner.ERR_NOT_COMPILED;

    public static void main(String[] arguments) {
        capacityWithinItsBounds();
        capacityForEveryInt();
        freshTextsAreEmpty();
        freshObjectIsNotCompiled();
        freshNumbersAreZero();
        objectsStandAlone();
        clearFormatOnAnyFormat();
        putFormatCharUpTo64();
        putFormatCharOnFullChangesNothing();
        putFormatCharEndsCompiled();
        putFormatCharTakesAnyChar();
        clearInputOnAnyInput();
        putInputCharUpTo256();
        putInputCharOnFullChangesNothing();
        putInputCharTakesAnyChar();
        copyOfNoChar();
        copyOfAFullOutput();
        copyOverALongerInput();
        copyStandsAlone();
        Check.finish();
    }

    /** "a value below 16 becomes 16, above 256 becomes 256, otherwise it is kept" */
    private static void capacityWithinItsBounds() {
        for (int cap = -20; cap <= 600; cap++) {
            capacityIs(cap, cap < 16 ? 16 : cap > 256 ? 256 : cap);
        }
    }

    /** "This holds for every int, including negative values and Integer.MIN_VALUE/MAX_VALUE." */
    private static void capacityForEveryInt() {
        capacityIs(Integer.MIN_VALUE, 16);
        capacityIs(Integer.MIN_VALUE + 1, 16);
        capacityIs(Integer.MIN_VALUE + 20, 16);
        capacityIs(Integer.MAX_VALUE, 256);
        capacityIs(Integer.MAX_VALUE - 1, 256);
        for (int shift = 9; shift <= 30; shift++) {
            capacityIs((1 << shift) + 20, 256);
            capacityIs(-(1 << shift) + 20, 16);
        }
    }

    private static void capacityIs(int cap, int want) {
        Check check = Check.fresh(cap).compiled("%*d%*d%*d");
        check.args(stars(want));
        Check.due("render of " + want + " chars, cap " + cap, check.x.render(), want);
        check.args(stars(want + 1));
        Check.due("render of " + (want + 1) + " chars, cap " + cap, check.x.render(), FormatScanner.ERR_OVERFLOW);
        Check.due("outLength after it, cap " + cap, check.x.outLength(), want);
    }

    /** Three widths, each followed by the value 0, that make this many chars. */
    private static long[] stars(int total) {
        int first = Math.min(total - 2, 99);
        int second = Math.min(total - first - 1, 99);
        return new long[] {first, 0, second, 0, total - first - second, 0};
    }

    /** "A fresh object has empty fmt, out and in" */
    private static void freshTextsAreEmpty() {
        for (int cap : new int[] {-1, 16, 100, 256, 1000}) {
            Check.due("compile of a fresh object", Check.fresh(cap).x.compile(), 0);
            Check.due("putFormatChar on a fresh object", Check.fresh(cap).x.putFormatChar('a'), 1);
            Check.due("outLength of a fresh object", Check.fresh(cap).x.outLength(), 0);
            Check.due("outChar(0) of a fresh object", Check.fresh(cap).x.outChar(0), (char) 0);
            Check.due("copyOutputToInput on a fresh object", Check.fresh(cap).x.copyOutputToInput(), 0);
            Check.due("putInputChar on a fresh object", Check.fresh(cap).x.putInputChar('a'), 1);
            Check.fresh(cap).compiled("%c").scanIs("scan of a fresh input", 0, 0, 0);
        }
    }

    /** A fresh object "is not compiled", though its empty format would compile. */
    private static void freshObjectIsNotCompiled() {
        FormatScanner x = Check.fresh(16).x;
        Check.due("render of a fresh object", x.render(), NOT_COMPILED);
        Check.due("scan of a fresh object", x.scan(), NOT_COMPILED);
        Check.due("argCount of a fresh object", x.argCount(), 0);
        Check.due("entryKind(0) of a fresh object", x.entryKind(0), -1);
        x.compile();
        Check.due("render of an empty format", x.render(), 0);
        Check.due("scan by an empty format", x.scan(), 0);
    }

    /** A fresh object "has all args and res 0, mask 0 and end 0". */
    private static void freshNumbersAreZero() {
        Check.due("the args of a fresh object", Part.ARGS.read(Check.fresh(16)), "0 0 0 0 0 0 0 0 ");
        Check.due("the results of a fresh object", Part.RESULTS.read(Check.fresh(16)), "0 0 0 0 0 0 0 0 mask 0 end 0");
    }

    /** What one object is given is not seen in another, older or younger. */
    private static void objectsStandAlone() {
        Check older = Check.fresh(16);
        Check used = Check.fresh(256).compiled("a%d %d").args(1, 2, 3, 4, 5, 6, 7, 8).input("a5 6");
        used.x.render();
        used.x.scan();
        for (Part part : Part.values()) {
            Check.due(part + " of a younger object", part.read(Check.fresh(16)), part.read(older));
            older = Check.fresh(16);
        }
        Check.due("out of the used object", used.out(), "a1 2");
        Check.due("its result", used.x.scanned(1), 6L);
    }

    /** "fmt becomes empty and the state becomes not compiled", be it empty, full, compiled or refused before. */
    private static void clearFormatOnAnyFormat() {
        String[] formats = {"", "a", "%d", "%", "%d%1$d", "a".repeat(63), "a".repeat(64), "%1$d".repeat(16)};
        for (String format : formats) {
            cleared("typed '" + format + "'", Check.with(format));
            cleared("compiled '" + format + "'", Check.fresh(256).compiled(format));
        }
        FormatScanner x = Check.with("abc").x;
        x.clearFormat();
        x.clearFormat();
        Check.due("putFormatChar after two clearFormat", x.putFormatChar('a'), 1);
    }

    private static void cleared(String state, Check check) {
        check.x.clearFormat();
        Check.due("render after clearFormat, " + state, check.x.render(), NOT_COMPILED);
        Check.due("scan after clearFormat, " + state, check.x.scan(), NOT_COMPILED);
        Check.due("argCount after clearFormat, " + state, check.x.argCount(), 0);
        Check.due("entryKind(0) after clearFormat, " + state, check.x.entryKind(0), -1);
        Check.due("compile after clearFormat, " + state, check.x.compile(), 0);
        Check.due("render of the empty format, " + state, check.x.render(), 0);
        for (int length = 1; length <= 64; length++) {
            Check.due("putFormatChar after clearFormat, " + state, check.x.putFormatChar('z'), length);
        }
        Check.due("putFormatChar on full after clearFormat, " + state, check.x.putFormatChar('z'), FULL);
    }

    /** "the answer is the new length (1..64)" and "If fmt already has 64 chars: answers ERR_FULL" */
    private static void putFormatCharUpTo64() {
        FormatScanner x = Check.fresh(16).x;
        for (int length = 1; length <= 64; length++) {
            Check.due("putFormatChar " + length, x.putFormatChar('%'), length);
        }
        for (int more = 65; more <= 200; more++) {
            Check.due("putFormatChar " + more, x.putFormatChar('%'), FULL);
        }
        Check.due("compile of 64 '%'", x.compile(), 1);
        Check.renders("%%".repeat(32), "%".repeat(32));
    }

    /** "answers ERR_FULL and nothing changes": the char is not kept, and compiled stays as it was. */
    private static void putFormatCharOnFullChangesNothing() {
        String text = "abcdefgh".repeat(7) + "ABCDEF%d";
        Check check = Check.fresh(256).compiled(text);
        Check.due("putFormatChar on a full compiled format", check.x.putFormatChar('z'), FULL);
        Check.due("argCount after ERR_FULL", check.x.argCount(), 1);
        Check.due("entryKind(1) after ERR_FULL", check.x.entryKind(1), (int) 'd');
        Check.due("render after ERR_FULL", check.x.render(), 63);
        Check.due("text after ERR_FULL", check.out(), text.replace("%d", "0"));
        Check.due("scan after ERR_FULL", check.x.scan(), 0);
        Check.due("compile after ERR_FULL", check.x.compile(), 2);
        check.format(text);
        Check.due("putFormatChar on a full typed format", check.x.putFormatChar('z'), FULL);
        Check.due("render after ERR_FULL, not compiled", check.x.render(), NOT_COMPILED);
        Check.due("compile after ERR_FULL, not compiled", check.x.compile(), 2);
        check.format("a".repeat(63) + "%");
        Check.due("putFormatChar behind a last '%'", check.x.putFormatChar('%'), FULL);
        Check.due("compile with a last '%'", check.x.compile(), FormatScanner.ERR_TRUNCATED);
    }

    /** "the state becomes not compiled (even if it was compiled)" */
    private static void putFormatCharEndsCompiled() {
        String[] formats = {"", "a", "%d", "%1$d%2$s", "a".repeat(63)};
        for (String format : formats) {
            Check check = Check.fresh(256).compiled(format);
            Check.due("putFormatChar behind '" + format + "'", check.x.putFormatChar('z'), format.length() + 1);
            Check.due("render of '" + format + "z' before compile", check.x.render(), NOT_COMPILED);
            Check.due("scan by '" + format + "z' before compile", check.x.scan(), NOT_COMPILED);
            Check.due("argCount of '" + format + "z' before compile", check.x.argCount(), 0);
            Check.due("entryKind(0) of '" + format + "z' before compile", check.x.entryKind(0), -1);
        }
    }

    /** "Otherwise c (any char) is appended" */
    private static void putFormatCharTakesAnyChar() {
        for (char c : new char[] {0, 1, 31, 127, 128, 255, 256, 0xD800, 0xDFFF, 0xFFFE, 0xFFFF}) {
            Check.renders("a" + c + "b", "a" + c + "b");
        }
    }

    /** "in becomes empty", be it empty or full before. */
    private static void clearInputOnAnyInput() {
        for (int length : new int[] {0, 1, 255, 256}) {
            Check check = Check.fresh(16).compiled("%c").input("7".repeat(length));
            check.x.clearInput();
            check.scanIs("scan after clearInput of " + length + " chars", 0, 0, 0);
            for (int put = 1; put <= 256; put++) {
                Check.due("putInputChar after clearInput of " + length + " chars", check.x.putInputChar('8'), put);
            }
            Check.due("putInputChar on full after clearInput", check.x.putInputChar('8'), FULL);
        }
    }

    /** "the answer is the new length (1..256)" and "If in already has 256 chars: answers ERR_FULL" */
    private static void putInputCharUpTo256() {
        for (int cap : new int[] {16, 256}) {
            FormatScanner x = Check.fresh(cap).x;
            for (int length = 1; length <= 256; length++) {
                Check.due("putInputChar " + length + ", cap " + cap, x.putInputChar('1'), length);
            }
            for (int more = 257; more <= 600; more++) {
                Check.due("putInputChar " + more + ", cap " + cap, x.putInputChar('1'), FULL);
            }
        }
    }

    /** "answers ERR_FULL and nothing changes": each of the 256 chars is as it was. */
    private static void putInputCharOnFullChangesNothing() {
        String digits = "12345678901234567".repeat(16).substring(0, 256);
        Check check = Check.fresh(16).compiled("%32lu".repeat(8)).input(digits);
        check.x.putInputChar('9');
        check.x.putInputChar(' ');
        long[] want = new long[8];
        for (int slot = 0; slot < 8; slot++) {
            want[slot] = new java.math.BigInteger(digits.substring(32 * slot, 32 * slot + 32)).longValue();
        }
        check.scanIs("scan after ERR_FULL", 8, 255, 256, want);
    }

    /** "Otherwise c (any char) is appended" */
    private static void putInputCharTakesAnyChar() {
        for (char c : new char[] {0, 1, 31, 127, 128, 255, 256, 0xD800, 0xDFFF, 0xFFFE, 0xFFFF}) {
            Check.scans("%c%c%c", "a" + c + "b", 3, 7, 3, 'a', c, 'b');
        }
    }

    /** "in becomes a copy of out; the answer is its length", where out is empty. */
    private static void copyOfNoChar() {
        Check check = Check.fresh(16).compiled("%c").input("7".repeat(256));
        Check.due("copyOutputToInput of no char", check.x.copyOutputToInput(), 0);
        check.scanIs("scan of the copy of no char", 0, 0, 0);
        Check.due("putInputChar behind the copy of no char", check.x.putInputChar('a'), 1);
    }

    /** The same, where out has all the chars that the capacity allows. */
    private static void copyOfAFullOutput() {
        for (int cap : new int[] {16, 17, 255, 256}) {
            Check check = Check.fresh(cap).compiled("%0*u%0*u%0*u").args(stars(cap));
            check.x.setArg(5, 7);
            check.x.render();
            Check.due("copyOutputToInput of " + cap + " chars", check.x.copyOutputToInput(), cap);
            check.compiled("%u").scanIs("scan of " + cap + " chars", 1, 1, cap, 7);
            Check.due("putInputChar behind " + cap + " chars", check.x.putInputChar('5'), cap == 256 ? FULL : cap + 1);
        }
    }

    /** The same, where in was longer: nothing of it is left behind the copy. */
    private static void copyOverALongerInput() {
        Check check = Check.fresh(16).compiled("12%c%c").args(0, 0xFFFF).input("9".repeat(256));
        check.x.render();
        Check.due("copyOutputToInput of 4 chars", check.x.copyOutputToInput(), 4);
        check.scanIs("scan of the copy", 2, 3, 4, 0, 0xFFFF);
        check.compiled("12%c%c%c");
        check.scanIs("scan behind the copy", 2, 3, 4, 0, 0xFFFF);
        Check.due("putInputChar behind the copy", check.x.putInputChar('a'), 5);
    }

    /** A copy: what comes later to one of the texts does not come to the other. */
    private static void copyStandsAlone() {
        Check check = Check.fresh(16).compiled("%d").args(12);
        check.x.render();
        check.x.copyOutputToInput();
        check.args(987).x.render();
        check.scanIs("scan after another render", 1, 1, 2, 12);
        check.x.copyOutputToInput();
        check.x.clearInput();
        Check.due("out after clearInput", check.out(), "987");
        check.input("55");
        Check.due("out after putInputChar", check.out(), "987");
    }
}
