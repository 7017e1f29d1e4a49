/** The boundary cases of promise 15, a test for each condition or sentence that names one. */
public final class RoundTripEdgeTest {
    private static final long[] VALUES = {0, 1, -1, 7, -8, 9, 10, 255, 4096, Integer.MAX_VALUE, Integer.MIN_VALUE, 1L << 31,
        1L << 32, (1L << 32) - 1, (1L << 32) + 1, -(1L << 32), Long.MAX_VALUE, Long.MIN_VALUE, Long.MIN_VALUE + 1};
    private static final String[] CONVERSIONS = {"d", "u", "x", "X", "o", "ld", "lu", "lx", "lX", "lo"};
    private static final String[] WHITESPACE = {"\t", "\n", "\u000B", "\f", "\r", " "};

    public static void main(String[] arguments) {
        fromAnyState();
        noDirective();
        everyFlagAndPrecision();
        widthsOfExactlyTheText();
        everyWhitespaceBehind();
        literalsThatLookLikeNumbers();
        eightDirectives();
        fullFormat();
        fullOutput();
        endBeforeTheLastPadding();
        Check.finish();
    }

    private static long transformed(String conversion, long value) {
        if (conversion.startsWith("l")) {
            return value;
        }
        return conversion.equals("d") ? (int) value : value & 0xFFFFFFFFL;
    }

    /** Renders, copies and scans by a format with one directive; end is counted back from the output's end. */
    private static void comesBack(Check check, String format, String conversion, long value, int left) {
        String call = "round trip of '" + format + "' with " + value;
        check.compiled(format).args(value);
        int length = check.x.render();
        Check.due(call + ", render is not refused", length >= 0, true);
        Check.due(call + ", copyOutputToInput", check.x.copyOutputToInput(), length);
        check.scanIs(call, 1, 1, length - left, transformed(conversion, value));
    }

    private static String text(String directive, long value) {
        Check check = Check.fresh(256).compiled(directive).args(value);
        check.x.render();
        return check.out();
    }

    /** "Take any state": fresh, full of other texts, refused before. */
    private static void fromAnyState() {
        for (long value : VALUES) {
            comesBack(Check.fresh(32), "%ld", "ld", value, 0);
            comesBack(Check.fresh(256).compiled("%"), "%ld", "ld", value, 0);
            comesBack(Check.fresh(256).compiled("%*d").args(100).input("9".repeat(256)), "%ld", "ld", value, 0);
            Check full = Check.fresh(256).compiled("%099d%099d%058d");
            full.x.render();
            full.x.copyOutputToInput();
            full.x.scan();
            comesBack(full, "<%ld ", "ld", value, 0);
        }
    }

    /** "then scan answers the number of directives", where there is none. */
    private static void noDirective() {
        for (String format : new String[] {"", "abc", " ", "a b%%c\t", "%%", " \n x", "abcdefghijklmnop"}) {
            Check check = Check.fresh(16).compiled("%d").input("5");
            check.x.scan();
            check.compiled(format);
            int length = check.x.render();
            check.x.copyOutputToInput();
            check.scanIs("round trip of '" + format + "'", 0, 0, length);
        }
    }

    /** "with the precision absent or at least 1": every set of flags, every conversion, values at their edges. */
    private static void everyFlagAndPrecision() {
        for (int set = 0; set < 32; set++) {
            String flags = "";
            for (int flag = 0; flag < 5; flag++) {
                flags += (set >> flag & 1) == 1 ? "-+ 0#".charAt(flag) : "";
            }
            for (String conversion : CONVERSIONS) {
                for (String precision : new String[] {"", ".1", ".2", ".22", ".99"}) {
                    for (long value : VALUES) {
                        comesBack(Check.fresh(256), "%" + flags + precision + conversion, conversion, value, 0);
                    }
                }
            }
        }
    }

    /** "every directive with a width W rendered exactly W chars": from the text's own length up to 99. */
    private static void widthsOfExactlyTheText() {
        for (String flags : new String[] {"", "-", "+", " ", "0", "#", "+0", " 0", "#0", "-#"}) {
            for (String conversion : CONVERSIONS) {
                for (String precision : new String[] {"", ".1", ".9"}) {
                    for (long value : VALUES) {
                        String bare = text("%" + flags + precision + conversion, value);
                        for (int width : new int[] {bare.length(), bare.length() + 1, bare.length() + 9, 99}) {
                            String directive = "%" + flags + width + precision + conversion;
                            int left = flags.contains("-") ? width - bare.length() : 0;
                            comesBack(Check.fresh(256), directive, conversion, value, left);
                            comesBack(Check.fresh(256), "a" + directive + " b", conversion, value, 0);
                        }
                    }
                }
            }
        }
    }

    /** "followed by a literal entry whose first char is whitespace" */
    private static void everyWhitespaceBehind() {
        for (String white : WHITESPACE) {
            for (String rest : new String[] {"", "x", "5", "%%", white + "0x", "-", " \t "}) {
                for (String directive : new String[] {"%d", "%-9d", "%9d", "%#x", "%+d", "% d"}) {
                    String conversion = directive.endsWith("x") ? "x" : "d";
                    comesBack(Check.fresh(256), directive + white + rest, conversion, 12, 0);
                }
            }
        }
    }

    /** A literal before a directive may be any: what it has matched is not read again. */
    private static void literalsThatLookLikeNumbers() {
        for (String literal : new String[] {"5", "-", "+", "0x", "0", " ", "- ", "0x0", "%%", "\t5"}) {
            for (String conversion : CONVERSIONS) {
                for (long value : VALUES) {
                    comesBack(Check.fresh(256), literal + "%" + conversion, conversion, value, 0);
                    comesBack(Check.fresh(256), literal + "%#." + "3" + conversion + " ", conversion, value, 0);
                }
            }
        }
    }

    /** "no slot is the value slot of two directives": at most eight, in any order of the slots. */
    private static void eightDirectives() {
        Check check = Check.fresh(256).compiled("%ld %lu %lx %lX %lo %d %u %o");
        check.args(Long.MIN_VALUE, -1, -1, Long.MIN_VALUE, -1, 1L << 31, -1, -1);
        int length = check.x.render();
        check.x.copyOutputToInput();
        check.scanIs("round trip of eight directives", 8, 255, length, Long.MIN_VALUE, -1, -1, Long.MIN_VALUE, -1,
            Integer.MIN_VALUE, 0xFFFFFFFFL, 0xFFFFFFFFL);
        check.compiled("%8$ld %7$d %6$u %5$x %4$X %3$o %2$ld %1$ld").args(1, -2, 3, 4, 5, 6, -7, -8);
        length = check.x.render();
        Check.due("render of eight positions", length, 18);
        check.x.copyOutputToInput();
        check.scanIs("round trip of eight positions", 8, 255, length, 1, -2, 3, 4, 5, 6, -7, -8);
    }

    /** "a format F of at most 64 chars" */
    private static void fullFormat() {
        comesBack(Check.fresh(256), "a".repeat(61) + "%ld", "ld", Long.MIN_VALUE, 0);
        comesBack(Check.fresh(256), "%ld" + " ".repeat(61), "ld", Long.MIN_VALUE, 0);
        comesBack(Check.fresh(256), "a".repeat(60) + "%-9d", "d", 5, 8);
    }

    /** "call render (answering a value >= 0)": the text has just as many chars as the capacity. */
    private static void fullOutput() {
        comesBack(Check.fresh(20), "%ld", "ld", Long.MIN_VALUE, 0);
        comesBack(Check.fresh(16), "%16d", "d", -5, 0);
        comesBack(Check.fresh(16), "%-16d", "d", -5, 14);
        comesBack(Check.fresh(16), "%016d", "d", -5, 0);
        comesBack(Check.fresh(99), "%99lu", "lu", -1, 0);
        Check check = Check.fresh(256).compiled("%99d %-99d %56d").args(1, -2, 3);
        Check.due("render of 256 chars", check.x.render(), 256);
        check.x.copyOutputToInput();
        check.scanIs("round trip of 256 chars", 3, 7, 256, 1, -2, 3);
    }

    /** "outLength minus the number of spaces that flag '-' padding added after that entry's text" */
    private static void endBeforeTheLastPadding() {
        for (int width = 1; width <= 99; width++) {
            comesBack(Check.fresh(256), "%-" + width + "d", "d", 7, width - 1);
            comesBack(Check.fresh(256), "%-" + width + "d ", "d", 7, 0);
            comesBack(Check.fresh(256), "%" + width + "d", "d", 7, 0);
            comesBack(Check.fresh(256), "%-0" + width + "d", "d", 7, width - 1);
        }
        Check check = Check.fresh(256).compiled("%-9d %-9d").args(5, 6);
        check.x.render();
        check.x.copyOutputToInput();
        check.scanIs("round trip of two with padding behind", 2, 3, 11, 5, 6);
        Check.due("outLength of it", check.x.outLength(), 19);
    }
}
