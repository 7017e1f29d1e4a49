/** Long runs of calls of every kind, each answer and all that can be seen held against the model (promises 1 to 14). */
public final class ModelTest {
    private static final int RUNS = 4000;
    private static final int STEPS = 40;

    private final Dice dice;
    private final Check check;
    private final Model model;
    private final String run;

    private ModelTest(int seed) {
        dice = new Dice(seed);
        int cap = dice.oneIn(8) ? (int) dice.bits() : dice.below(300);
        check = Check.fresh(cap);
        model = new Model(cap);
        run = "run " + seed + ": ";
    }

    public static void main(String[] arguments) {
        for (int seed = 1; seed <= RUNS; seed++) {
            ModelTest test = new ModelTest(seed);
            for (int step = 0; step < STEPS; step++) {
                test.step();
            }
        }
        Check.finish();
    }

    private void step() {
        String call = "";
        switch (dice.below(12)) {
            case 0, 1, 2 -> call = newFormat();
            case 3 -> call = moreFormat(dice.of("%", "d", "x", " ", "%d", "%1$d", "%%", "\0"));
            case 4, 5 -> call = setArgs();
            case 6, 7 -> call = due("render", check.x.render(), model.render());
            case 8 -> call = due("copyOutputToInput", check.x.copyOutputToInput(), model.copyOutputToInput());
            case 9 -> call = newInput();
            case 10 -> call = due("scan", check.x.scan(), model.scan());
            default -> call = due("compile", check.x.compile(), model.compile());
        }
        Check.due(run + "seen after " + call, check.seen(), model.seen());
        if (dice.oneIn(2)) {
            due("scan after " + call, check.x.scan(), model.scan());
            Check.due(run + "seen after scan after " + call, check.seen(), model.seen());
        }
    }

    private String due(String call, Object got, Object want) {
        Check.due(run + call, got, want);
        return call;
    }

    private String newFormat() {
        check.x.clearFormat();
        model.clearFormat();
        StringBuilder format = new StringBuilder();
        boolean positional = dice.oneIn(3);
        int pieces = dice.oneIn(8) ? 25 : dice.below(7);
        for (int i = 0; i < pieces; i++) {
            format.append(dice.oneIn(3) ? literal() : directive(positional));
        }
        moreFormat(format.toString());
        return due("compile of '" + format + "'", check.x.compile(), model.compile());
    }

    private String moreFormat(String text) {
        for (char c : text.toCharArray()) {
            due("putFormatChar of '" + text + "'", check.x.putFormatChar(c), model.putFormatChar(c));
        }
        return "putFormatChar of '" + text + "'";
    }

    private String literal() {
        return dice.of(" ", "a", "%%", "-", "x ", " \t", "\n", "0", "ab%%", "\u0101", "+", ", ", "12");
    }

    private String directive(boolean positional) {
        StringBuilder text = new StringBuilder("%");
        text.append(position(positional));
        while (dice.oneIn(3)) {
            text.append(dice.of("-", "+", " ", "0", "#"));
        }
        if (dice.oneIn(5)) {
            text.append('*').append(position(positional));
        } else if (dice.oneIn(2)) {
            text.append(dice.oneIn(30) ? 95 + dice.below(10) : 1 + dice.below(20));
        }
        if (dice.oneIn(3)) {
            text.append('.');
            if (dice.oneIn(4)) {
                text.append('*').append(position(positional));
            } else if (!dice.oneIn(4)) {
                text.append(dice.oneIn(30) ? 95 + dice.below(10) : dice.below(20));
            }
        }
        if (dice.oneIn(60)) {
            text.append(dice.of("$", "%", "l", "*", "5", "\0", "y", "\u0164"));
        }
        boolean number = !dice.oneIn(4);
        if (number ? dice.oneIn(2) : dice.oneIn(40)) {
            text.append('l');
        }
        return text.append(number ? dice.of("d", "d", "u", "x", "X", "o") : dice.of("c", "s")).toString();
    }

    private String position(boolean positional) {
        if (dice.oneIn(60)) {
            return dice.of("0$", "9$", "01$", "1$", "", "1000000000000000000001$", "3");
        }
        return positional ? (1 + dice.below(dice.oneIn(4) ? 8 : 2)) + "$" : "";
    }

    private String setArgs() {
        for (int slot = 0; slot < 8; slot++) {
            if (dice.oneIn(2)) {
                long value = dice.value();
                due("setArg", check.x.setArg(slot, value), model.setArg(slot, value));
            }
        }
        int slot = dice.below(40) - 16;
        return due("setArg(" + slot + ", 77)", check.x.setArg(slot, 77), model.setArg(slot, 77));
    }

    private String newInput() {
        if (!dice.oneIn(10)) {
            check.x.clearInput();
            model.clearInput();
        }
        StringBuilder text = new StringBuilder();
        int pieces = dice.oneIn(10) ? 120 : dice.below(12);
        for (int i = 0; i < pieces; i++) {
            text.append(dice.oneIn(3) ? literal().replace("%%", "%") : piece());
        }
        for (char c : text.toString().toCharArray()) {
            due("putInputChar of '" + text + "'", check.x.putInputChar(c), model.putInputChar(c));
        }
        return "putInputChar of '" + text + "'";
    }

    private String piece() {
        long value = dice.value();
        return dice.of(Long.toString(value), Long.toUnsignedString(value), Long.toHexString(value),
            "0x" + Long.toHexString(value), "0X" + Long.toHexString(value).toUpperCase(), Long.toOctalString(value),
            "+" + (value & 0xFFFF), "0x", "0xg", "0", "abc", "\u00FF", "\0", "8", " ", "\u000B", "-", "g");
    }
}
