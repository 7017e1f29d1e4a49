import java.util.LinkedHashMap;
import java.util.Map;
import java.util.function.Supplier;

/** 'Nothing changes', 'Nothing else changes' and 'Changes nothing' of the promises 2 to 14, each call in many states. */
public final class KeepTest {
    private static final int[] OUTSIDE = {-1, 8, 9, 64, 256, Integer.MIN_VALUE, Integer.MAX_VALUE};

    public static void main(String[] arguments) {
        for (Map.Entry<String, Supplier<Check>> state : states().entrySet()) {
            readers(state.getKey(), state.getValue());
            formatCalls(state.getKey(), state.getValue());
            inputCalls(state.getKey(), state.getValue());
            settingArgs(state.getKey(), state.getValue());
            renderAndScan(state.getKey(), state.getValue());
        }
        Check.finish();
    }

    private static Map<String, Supplier<Check>> states() {
        Map<String, Supplier<Check>> all = new LinkedHashMap<>();
        all.put("fresh", () -> Check.fresh(16));
        all.put("compiled", () -> used(256));
        all.put("compiled, cap 16", () -> used(16));
        all.put("cleared", () -> used(256).format(""));
        all.put("compiled empty", () -> used(256).compiled(""));
        all.put("typed", () -> used(256).format("b%x %d"));
        all.put("refused by compile", () -> used(256).compiled("b%x %"));
        all.put("bad width star", () -> used(256).compiled("%*d").args(100));
        all.put("bad precision star", () -> used(256).compiled("%d%.*d").args(7, 100));
        all.put("too long a text", () -> used(16).compiled("%17d"));
        all.put("full format", () -> used(256).format("c%d".repeat(6) + "e".repeat(46)));
        all.put("full compiled format", () -> used(256).compiled("c%d".repeat(6) + "e".repeat(46)));
        all.put("full input", () -> used(256).input("1234567890123456".repeat(16)));
        all.put("full output and input", KeepTest::fullOutput);
        return all;
    }

    private static Check used(int cap) {
        Check check = Check.fresh(cap).compiled("a%d %d").input("a5 6 rest");
        check.args(11, -22, 33, 44, 55, 66, 77, Long.MIN_VALUE);
        check.x.render();
        check.x.scan();
        return check;
    }

    private static Check fullOutput() {
        Check check = used(256).compiled("%099u%099u%058u");
        check.x.render();
        check.x.copyOutputToInput();
        check.x.scan();
        return check;
    }

    private static void readers(String name, Supplier<Check> state) {
        Part.allKept("the readers, " + name, state, x -> {
            x.argCount();
            x.outLength();
            x.scanMask();
            x.scanEnd();
            for (int i = -1; i <= 256; i++) {
                x.entryKind(i);
                x.outChar(i);
                x.scanned(i);
            }
            for (int i : OUTSIDE) {
                x.entryKind(i);
                x.outChar(i);
                x.scanned(i);
            }
        });
    }

    private static void formatCalls(String name, Supplier<Check> state) {
        Part.keptBut("clearFormat, " + name, state, x -> x.clearFormat(), Part.FORMAT, Part.TABLE);
        Part.keptBut("compile, " + name, state, x -> x.compile(), Part.TABLE);
        if (name.startsWith("full") && name.endsWith("format")) {
            Part.allKept("putFormatChar, " + name, state, x -> x.putFormatChar('%'));
        } else {
            Part.keptBut("putFormatChar, " + name, state, x -> x.putFormatChar('%'), Part.FORMAT, Part.TABLE);
        }
    }

    private static void inputCalls(String name, Supplier<Check> state) {
        Part.keptBut("clearInput, " + name, state, x -> x.clearInput(), Part.INPUT);
        Part.keptBut("copyOutputToInput, " + name, state, x -> x.copyOutputToInput(), Part.INPUT);
        if (name.startsWith("full") && name.endsWith("input")) {
            Part.allKept("putInputChar, " + name, state, x -> x.putInputChar('9'));
        } else {
            Part.keptBut("putInputChar, " + name, state, x -> x.putInputChar('9'), Part.INPUT);
        }
    }

    private static void settingArgs(String name, Supplier<Check> state) {
        for (int slot = 0; slot < FormatScanner.SLOTS; slot++) {
            int set = slot;
            Part.keptBut("setArg(" + slot + "), " + name, state, x -> x.setArg(set, 99), Part.ARGS);
        }
        for (int slot : OUTSIDE) {
            Part.allKept("setArg(" + slot + "), " + name, state, x -> x.setArg(slot, 99));
        }
    }

    private static void renderAndScan(String name, Supplier<Check> state) {
        if (state.get().x.render() < 0) {
            Part.allKept("refused render, " + name, state, x -> x.render());
        } else {
            Part.keptBut("render, " + name, state, x -> x.render(), Part.OUT);
        }
        if (state.get().x.scan() < 0) {
            Part.allKept("refused scan, " + name, state, x -> x.scan());
        } else {
            Part.keptBut("scan, " + name, state, x -> x.scan(), Part.RESULTS);
        }
    }
}
