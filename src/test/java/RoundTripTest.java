import java.util.ArrayList;
import java.util.Collections;
import java.util.List;

/** Promise 15: formats that meet its conditions, on objects in any state. */
public final class RoundTripTest {
    private static final int TRIES = 30000;

    private static final class Directive {
        String flags;
        int width;
        String precision;
        boolean isLong;
        String conversion;
        int slot;

        String text(String position) {
            return "%" + position + flags + (width == 0 ? "" : width) + precision + (isLong ? "l" : "") + conversion;
        }

        long transformed(long value) {
            if (isLong) {
                return value;
            }
            return conversion.equals("d") ? (int) value : value & 0xFFFFFFFFL;
        }
    }

    private static int held = 0;

    public static void main(String[] arguments) {
        Dice dice = new Dice(15);
        Check check = Check.fresh(256);
        for (int i = 0; i < TRIES; i++) {
            if (i % 100 == 0) {
                check = Check.fresh(dice.below(300));
            }
            roundTrip(dice, check);
        }
        Check.due("the tries that met the conditions are many", held > TRIES / 4, true);
        Check.finish();
    }

    private static void roundTrip(Dice dice, Check check) {
        List<Directive> directives = directives(dice);
        boolean positional = dice.oneIn(2);
        StringBuilder format = new StringBuilder(dice.of("", "", "x", " ", "n=", "5 ", "%%"));
        boolean endsInLiteral = dice.oneIn(2);
        for (int i = 0; i < directives.size(); i++) {
            Directive directive = directives.get(i);
            format.append(directive.text(positional ? (directive.slot + 1) + "$" : ""));
            if (i < directives.size() - 1 || endsInLiteral) {
                format.append(dice.of(" ", "\t", "\n\n", " , ", " 0x", "  -", " %%", "\r7"));
            }
        }
        if (!positional) {
            for (int i = 0; i < directives.size(); i++) {
                directives.get(i).slot = i;
            }
        }
        if (format.length() > 64) {
            return;
        }
        long[] args = new long[8];
        for (int slot = 0; slot < 8; slot++) {
            args[slot] = dice.value();
        }
        check.compiled(format.toString()).args(args);
        if (check.x.render() < 0 || !widthsAreFull(directives, args)) {
            return;
        }
        held++;
        int padding = endsInLiteral || directives.isEmpty() ? 0 : padding(directives.get(directives.size() - 1), args);
        scanIsDue("'" + format + "' with " + java.util.Arrays.toString(args), check, directives, args, padding);
    }

    private static List<Directive> directives(Dice dice) {
        List<Integer> slots = new ArrayList<>();
        int count = dice.below(6);
        for (int slot = 0; slot < count; slot++) {
            slots.add(dice.below(slots.size() + 1), slot);
        }
        if (dice.oneIn(4)) {
            Collections.reverse(slots);
        }
        List<Directive> made = new ArrayList<>();
        for (int slot : slots) {
            Directive directive = new Directive();
            directive.flags = dice.of("", "", "-", "+", " ", "0", "#", "#0", "-#", "+0", "- ");
            directive.width = dice.oneIn(2) ? 0 : 1 + dice.below(dice.oneIn(3) ? 40 : 12);
            directive.precision = dice.oneIn(3) ? "." + (1 + dice.below(25)) : "";
            directive.isLong = dice.oneIn(2);
            directive.conversion = dice.of("d", "u", "x", "X", "o");
            directive.slot = slot;
            made.add(directive);
        }
        return made;
    }

    private static String alone(Directive directive, long[] args) {
        Check check = Check.fresh(256).compiled(directive.text("")).args(args[directive.slot]);
        check.x.render();
        return check.out();
    }

    private static boolean widthsAreFull(List<Directive> directives, long[] args) {
        for (Directive directive : directives) {
            if (directive.width > 0 && alone(directive, args).length() != directive.width) {
                return false;
            }
        }
        return true;
    }

    private static int padding(Directive last, long[] args) {
        String text = alone(last, args);
        return text.length() - text.stripTrailing().length();
    }

    private static void scanIsDue(String call, Check check, List<Directive> directives, long[] args, int padding) {
        int length = check.x.outLength();
        Check.due("copyOutputToInput of " + call, check.x.copyOutputToInput(), length);
        int mask = 0;
        long[] results = new long[8];
        for (Directive directive : directives) {
            mask |= 1 << directive.slot;
            results[directive.slot] = directive.transformed(args[directive.slot]);
        }
        check.scanIs("scan of " + call, directives.size(), mask, length - padding, results);
    }
}
