import java.util.LinkedHashMap;
import java.util.Map;
import java.util.function.Consumer;
import java.util.function.Supplier;

/** 'Nothing changes', 'Nothing else changes' and 'Changes nothing' of the promises 2 to 14, each call in many states. */
public final class KeepTest {
    private static final int[] OUTSIDE = {-1, 8, 9, 64, 256, Integer.MIN_VALUE, Integer.MAX_VALUE};
    private static final String WIDE = "%32lu".repeat(8);
    private static final String DIGITS = "12345678901234567".repeat(16).substring(0, 256);
    private static final long[] ARGS = {1, 20, 300, 4000, 50000, 600000, 7000000, 80000008};

    public static void main(String[] arguments) {
        for (Map.Entry<String, Supplier<Check>> state : states().entrySet()) {
            readers(state.getKey(), state.getValue());
            formatCalls(state.getKey(), state.getValue());
            inputCalls(state.getKey(), state.getValue());
            settingArgs(state.getKey(), state.getValue());
            renderAndScan(state.getKey(), state.getValue());
        }
        fullTextsStay();
        fullFormatStays();
        Check.finish();
    }

    /** Objects with no, some and all of the room used, each with a format in every stage. */
    private static Map<String, Supplier<Check>> states() {
        String full = "c%-4d".repeat(6) + "e".repeat(34);
        Map<String, Supplier<Check>> bases = new LinkedHashMap<>();
        bases.put("fresh", () -> Check.fresh(16));
        bases.put("used, cap 16", () -> used(16));
        bases.put("used, cap 256", () -> used(256));
        bases.put("full output", KeepTest::fullOutput);
        bases.put("full output and input", KeepTest::fullOutputAndInput);
        Map<String, Supplier<Check>> all = new LinkedHashMap<>();
        for (Map.Entry<String, Supplier<Check>> entry : bases.entrySet()) {
            Supplier<Check> base = entry.getValue();
            all.put(entry.getKey(), base);
            all.put(entry.getKey() + ", cleared", () -> base.get().format(""));
            all.put(entry.getKey() + ", compiled empty", () -> base.get().compiled(""));
            all.put(entry.getKey() + ", typed", () -> base.get().format("b%#x %d"));
            all.put(entry.getKey() + ", typed wrong", () -> base.get().format("b%#x %"));
            all.put(entry.getKey() + ", refused by compile", () -> base.get().compiled("b%#x %"));
            all.put(entry.getKey() + ", bad width star", () -> base.get().compiled("%+*d").args(100));
            all.put(entry.getKey() + ", bad precision star", () -> base.get().compiled("%d%.*d").args(7, 100));
            all.put(entry.getKey() + ", too long a text", () -> base.get().compiled("%-99d%99d%99d"));
            all.put(entry.getKey() + ", full format", () -> base.get().format(full));
            all.put(entry.getKey() + ", full compiled format", () -> base.get().compiled(full));
        }
        return all;
    }

    private static Check used(int cap) {
        Check check = Check.fresh(cap).compiled("%+d a%d").input("+5 a6 rest");
        check.args(11, -22, 35, 44, 55, 66, 77, Long.MIN_VALUE);
        check.x.render();
        check.x.scan();
        return check;
    }

    private static Check fullOutput() {
        Check check = used(256).compiled("%099u%099u%058u");
        check.x.render();
        return check;
    }

    private static Check fullOutputAndInput() {
        Check check = fullOutput();
        check.x.copyOutputToInput();
        check.x.scan();
        return check;
    }

    private static void readers(String name, Supplier<Check> state) {
        Part.allKept("the readers, " + name, state, x -> {
            x.argCount();
            x.outLength();
            x.scanMask();
            x.scanEnd();
            for (int i = -1; i <= 256; i++) {
                x.entryKind(i);
                x.outChar(i);
                x.scanned(i);
            }
            for (int i : OUTSIDE) {
                x.entryKind(i);
                x.outChar(i);
                x.scanned(i);
            }
        });
    }

    private static void formatCalls(String name, Supplier<Check> state) {
        Part.keptBut("clearFormat, " + name, state, x -> x.clearFormat(), Part.FORMAT, Part.TABLE);
        Part.keptBut("compile, " + name, state, x -> x.compile(), Part.TABLE);
        if (state.get().x.putFormatChar('%') < 0) {
            Part.allKept("putFormatChar, " + name, state, x -> x.putFormatChar('%'));
        } else {
            Part.keptBut("putFormatChar, " + name, state, x -> x.putFormatChar('%'), Part.FORMAT, Part.TABLE);
        }
    }

    private static void inputCalls(String name, Supplier<Check> state) {
        Part.keptBut("clearInput, " + name, state, x -> x.clearInput(), Part.INPUT);
        Part.keptBut("copyOutputToInput, " + name, state, x -> x.copyOutputToInput(), Part.INPUT);
        if (state.get().x.putInputChar('9') < 0) {
            Part.allKept("putInputChar, " + name, state, x -> x.putInputChar('9'));
        } else {
            Part.keptBut("putInputChar, " + name, state, x -> x.putInputChar('9'), Part.INPUT);
        }
    }

    private static void settingArgs(String name, Supplier<Check> state) {
        for (int slot = 0; slot < FormatScanner.SLOTS; slot++) {
            int set = slot;
            Part.keptBut("setArg(" + slot + "), " + name, state, x -> x.setArg(set, 99), Part.ARGS);
        }
        for (int slot : OUTSIDE) {
            Part.allKept("setArg(" + slot + "), " + name, state, x -> x.setArg(slot, 99));
        }
    }

    private static void renderAndScan(String name, Supplier<Check> state) {
        if (state.get().x.render() < 0) {
            Part.allKept("refused render, " + name, state, x -> x.render());
        } else {
            Part.keptBut("render, " + name, state, x -> x.render(), Part.OUT);
        }
        if (state.get().x.scan() < 0) {
            Part.allKept("refused scan, " + name, state, x -> x.scan());
        } else {
            Part.keptBut("scan, " + name, state, x -> x.scan(), Part.RESULTS);
        }
    }

    /** Every char of a full output and a full input, held against what is due and not against another object. */
    private static void fullTextsStay() {
        Map<String, Consumer<FormatScanner>> calls = new LinkedHashMap<>();
        calls.put("no call", x -> { });
        calls.put("argCount", x -> x.argCount());
        calls.put("entryKind", x -> x.entryKind(0));
        calls.put("entryKind outside", x -> x.entryKind(8));
        calls.put("setArg of the same", x -> x.setArg(7, ARGS[7]));
        calls.put("setArg outside", x -> x.setArg(8, 9));
        calls.put("outLength", x -> x.outLength());
        calls.put("outChar", x -> x.outChar(255));
        calls.put("outChar outside", x -> x.outChar(256));
        calls.put("putInputChar", x -> x.putInputChar('9'));
        calls.put("scanned", x -> x.scanned(7));
        calls.put("scanned outside", x -> x.scanned(8));
        calls.put("scanMask", x -> x.scanMask());
        calls.put("scanEnd", x -> x.scanEnd());
        calls.put("compile", x -> x.compile());
        calls.put("render", x -> x.render());
        calls.put("scan", x -> x.scan());
        calls.put("putFormatChar", x -> x.putFormatChar('%'));
        calls.put("clearFormat", x -> x.clearFormat());
        for (Map.Entry<String, Consumer<FormatScanner>> call : calls.entrySet()) {
            Check check = Check.fresh(256).compiled(WIDE).args(ARGS).input(DIGITS);
            check.x.render();
            check.x.scan();
            call.getValue().accept(check.x);
            fullTextsAreDue("after " + call.getKey(), check);
        }
    }

    private static void fullTextsAreDue(String when, Check check) {
        StringBuilder out = new StringBuilder();
        long[] results = new long[8];
        for (int slot = 0; slot < 8; slot++) {
            out.append(String.format("%32d", ARGS[slot]));
            results[slot] = new java.math.BigInteger(DIGITS.substring(32 * slot, 32 * slot + 32)).longValue();
        }
        StringBuilder seen = new StringBuilder();
        for (long result : results) {
            seen.append(result).append(' ');
        }
        seen.append("mask 255 end 256");
        for (int round = 1; round <= 3; round++) {
            Check.due("out " + when + ", round " + round, check.out(), out.toString());
            Check.due("results " + when + ", round " + round, Part.RESULTS.read(check), seen.toString());
            check.compiled(WIDE);
            check.scanIs("scan " + when + ", round " + round, 8, 255, 256, results);
            Check.due("render " + when + ", round " + round, check.x.render(), 256);
            Check.due("putInputChar " + when + ", round " + round, check.x.putInputChar('1'), FormatScanner.ERR_FULL);
        }
        Check.due("copyOutputToInput " + when, check.x.copyOutputToInput(), 256);
        check.scanIs("scan of the copy " + when, 8, 255, 256, ARGS);
        check.scanIs("scan of the copy again " + when, 8, 255, 256, ARGS);
        Check.due("out at the end " + when, check.out(), out.toString());
    }

    /** Every char, flag and star of a full format, after each refusal that can meet it. */
    private static void fullFormatStays() {
        String literal = "|abcdefghijklmnopqrstuvwxyzABCDEFGHIJKLMNOPQRSTU|Zz";
        Check check = Check.fresh(70).format("%-#*.*lx%+05d" + literal);
        String text = "0x0ff   +0007" + literal;
        for (int round = 1; round <= 3; round++) {
            Check.due("compile, round " + round, check.x.compile(), 3);
            check.args(8, 3, 255, 7);
            Check.due("render, round " + round, check.x.render(), 64);
            Check.due("the text, round " + round, check.out(), text);
            Check.due("putFormatChar, round " + round, check.x.putFormatChar('q'), FormatScanner.ERR_FULL);
            Check.due("argCount, round " + round, check.x.argCount(), 4);
            int[] kinds = {-1, 'x' + 256, 'd', 0, -1};
            for (int i = -1; i <= 3; i++) {
                Check.due("entryKind(" + i + "), round " + round, check.x.entryKind(i), kinds[i + 1]);
            }
            check.args(100);
            Check.due("render, bad width star, round " + round, check.x.render(), FormatScanner.ERR_BAD_WIDTH);
            Check.due("scan, bad width star, round " + round, check.x.scan(), FormatScanner.ERR_BAD_WIDTH);
            check.args(8, 100);
            Check.due("render, bad precision star, round " + round, check.x.render(), FormatScanner.ERR_BAD_WIDTH);
            Check.due("scan, bad precision star, round " + round, check.x.scan(), FormatScanner.ERR_BAD_WIDTH);
            check.args(99, 3);
            Check.due("render, too long, round " + round, check.x.render(), FormatScanner.ERR_OVERFLOW);
            Check.due("the text after the refusals, round " + round, check.out(), text);
            check.args(8);
            Check.due("render after the refusals, round " + round, check.x.render(), 64);
            Check.due("the text again, round " + round, check.out(), text);
            check.x.copyOutputToInput();
            check.scanIs("scan after the refusals, round " + round, 2, 12, 64, 0, 0, 255, 7);
            Check.due("render after the scan, round " + round, check.x.render(), 64);
            Check.due("the text after the scan, round " + round, check.out(), text);
        }
    }
}
