import java.math.BigInteger;
import java.util.ArrayList;
import java.util.List;
import java.util.regex.Matcher;
import java.util.regex.Pattern;

/** The document once more, over strings, patterns and big integers, so that it shares no way of working with the class. */
final class Model {
    private static final Pattern DIRECTIVE = Pattern.compile(
        "%(?:(?<value>[0-9]++)\\$)?+(?<flags>[-+ 0#]*+)"
        + "(?:(?<widthStar>\\*(?:(?<widthPos>[0-9]++)\\$)?+)|(?<width>[1-9][0-9]*+))?+"
        + "(?<point>\\.(?:(?<precStar>\\*(?:(?<precPos>[0-9]++)\\$)?+)|(?<prec>[0-9]*+)))?+"
        + "(?<long>l)?+(?<conv>[\\s\\S])?+");
    private static final BigInteger TWO_64 = BigInteger.ONE.shiftLeft(64);
    private static final String WHITE = "\t\n\u000B\f\r ";

    private static final class Entry {
        final StringBuilder literal = new StringBuilder();
        char conv;
        boolean isLong;
        String flags;
        int width;
        Integer precision;
        Integer widthSlot;
        Integer precisionSlot;
        int slot;

        boolean isLiteral() {
            return conv == 0;
        }

        BigInteger narrowed(BigInteger value) {
            int bits = isLong ? 64 : 32;
            BigInteger size = BigInteger.ONE.shiftLeft(bits);
            BigInteger low = value.mod(size);
            return conv == 'd' && low.testBit(bits - 1) ? low.subtract(size) : low;
        }
    }

    private final int cap;
    private String fmt = "";
    private String in = "";
    private String out = "";
    private final long[] args = new long[8];
    private long[] res = new long[8];
    private int mask;
    private int end;
    private List<Entry> table;
    private int argCount;

    Model(int cap) {
        this.cap = Math.max(16, Math.min(256, cap));
    }

    void clearFormat() {
        fmt = "";
        table = null;
    }

    int putFormatChar(char c) {
        if (fmt.length() == 64) {
            return -10;
        }
        fmt += c;
        table = null;
        return fmt.length();
    }

    private static int capped(String digits) {
        return digits.isEmpty() ? 0 : new BigInteger(digits).min(BigInteger.valueOf(1000)).intValue();
    }

    private static boolean badPosition(String digits) {
        return digits != null && (capped(digits) < 1 || capped(digits) > 8);
    }

    private static int directiveError(Matcher m) {
        if (badPosition(m.group("value")) || badPosition(m.group("widthPos"))) {
            return -3;
        }
        if (m.group("width") != null && capped(m.group("width")) > 99) {
            return -5;
        }
        if (badPosition(m.group("precPos"))) {
            return -3;
        }
        if (m.group("prec") != null && capped(m.group("prec")) > 99) {
            return -5;
        }
        if (m.group("conv") == null) {
            return -1;
        }
        if (!"duxXocs".contains(m.group("conv"))) {
            return -2;
        }
        return m.group("long") != null && "cs".contains(m.group("conv")) ? -11 : 0;
    }

    int compile() {
        table = null;
        List<Entry> entries = new ArrayList<>();
        List<Integer> positions = new ArrayList<>();
        int directives = 0;
        Matcher m = DIRECTIVE.matcher(fmt);
        int i = 0;
        while (i < fmt.length()) {
            boolean doubled = fmt.startsWith("%%", i);
            if (doubled || fmt.charAt(i) != '%') {
                if (entries.isEmpty() || !entries.get(entries.size() - 1).isLiteral()) {
                    entries.add(new Entry());
                }
                entries.get(entries.size() - 1).literal.append(fmt.charAt(i));
                i += doubled ? 2 : 1;
                continue;
            }
            m.region(i, fmt.length()).lookingAt();
            int error = directiveError(m);
            if (error == 0 && ++directives == 17) {
                error = -6;
            }
            if (error == 0) {
                error = addDirective(m, entries, positions);
            }
            if (error != 0) {
                return error;
            }
            i = m.end();
        }
        int greatest = positions.stream().max(Integer::compare).orElse(0);
        for (int p = 1; p <= greatest; p++) {
            if (!positions.contains(p)) {
                return -7;
            }
        }
        argCount = greatest > 0 ? greatest : positions.size();
        table = entries;
        return table.size();
    }

    /** In positions, a use without a position counts as 0. */
    private static int addDirective(Matcher m, List<Entry> entries, List<Integer> positions) {
        Entry entry = new Entry();
        entry.conv = m.group("conv").charAt(0);
        entry.isLong = m.group("long") != null;
        entry.flags = m.group("flags");
        entry.width = m.group("width") == null ? 0 : capped(m.group("width"));
        entry.precision = m.group("prec") == null ? null : Integer.valueOf(capped(m.group("prec")));
        String[][] uses = {
            {m.group("widthStar"), m.group("widthPos")},
            {m.group("precStar"), m.group("precPos")},
            {"value", m.group("value")}};
        for (int k = 0; k < 3; k++) {
            if (uses[k][0] == null) {
                continue;
            }
            int position = uses[k][1] == null ? 0 : capped(uses[k][1]);
            if (!positions.isEmpty() && (positions.get(0) == 0) != (position == 0)) {
                return -4;
            }
            if (position == 0 && positions.size() == 8) {
                return -6;
            }
            int slot = position == 0 ? positions.size() : position - 1;
            positions.add(position);
            if (k == 0) {
                entry.widthSlot = slot;
            } else if (k == 1) {
                entry.precisionSlot = slot;
            } else {
                entry.slot = slot;
            }
        }
        entries.add(entry);
        return 0;
    }

    int argCount() {
        return table == null ? 0 : argCount;
    }

    int entryKind(int i) {
        if (table == null || i < 0 || i >= table.size()) {
            return -1;
        }
        Entry entry = table.get(i);
        return entry.conv + (entry.isLong ? 256 : 0);
    }

    boolean setArg(int slot, long value) {
        if (slot < 0 || slot > 7) {
            return false;
        }
        args[slot] = value;
        return true;
    }

    private boolean badStars() {
        for (Entry entry : table) {
            if (entry.widthSlot != null && ((int) args[entry.widthSlot] > 99 || (int) args[entry.widthSlot] < -99)) {
                return true;
            }
            if (entry.precisionSlot != null && (int) args[entry.precisionSlot] > 99) {
                return true;
            }
        }
        return false;
    }

    private int width(Entry entry) {
        return entry.widthSlot == null ? entry.width : Math.abs((int) args[entry.widthSlot]);
    }

    int render() {
        if (table == null) {
            return -9;
        }
        if (badStars()) {
            return -5;
        }
        StringBuilder all = new StringBuilder();
        for (Entry entry : table) {
            all.append(entry.isLiteral() ? entry.literal : rendered(entry));
        }
        if (all.length() > cap) {
            return -8;
        }
        out = all.toString();
        return out.length();
    }

    private String rendered(Entry entry) {
        int w = width(entry);
        boolean left = entry.flags.contains("-") || (entry.widthSlot != null && (int) args[entry.widthSlot] < 0);
        Integer p = entry.precision;
        if (entry.precisionSlot != null) {
            p = (int) args[entry.precisionSlot] < 0 ? null : Integer.valueOf((int) args[entry.precisionSlot]);
        }
        long a = args[entry.slot];
        String text;
        if (entry.conv == 'c') {
            text = String.valueOf((char) a);
        } else if (entry.conv == 's') {
            text = packed(a);
            text = p != null && p < text.length() ? text.substring(0, p) : text;
        } else {
            text = number(entry, a, left ? 0 : w, p);
        }
        String spaces = " ".repeat(Math.max(0, w - text.length()));
        return left ? text + spaces : spaces + text;
    }

    private static String packed(long a) {
        StringBuilder text = new StringBuilder();
        for (byte b : java.nio.ByteBuffer.allocate(8).order(java.nio.ByteOrder.LITTLE_ENDIAN).putLong(a).array()) {
            text.append((char) Byte.toUnsignedInt(b));
        }
        int zero = text.indexOf("\0");
        return zero < 0 ? text.toString() : text.substring(0, zero);
    }

    private static int base(char conv) {
        return conv == 'o' ? 8 : conv == 'x' || conv == 'X' ? 16 : 10;
    }

    private static String number(Entry entry, long a, int zeroWidth, Integer p) {
        BigInteger n = entry.narrowed(BigInteger.valueOf(a));
        String d = n.abs().toString(base(entry.conv));
        if (entry.conv == 'X') {
            d = d.toUpperCase();
        }
        if (n.signum() == 0 && p != null && p == 0) {
            d = "";
        }
        while (p != null && d.length() < p) {
            d = "0" + d;
        }
        String prefix = "";
        if (entry.conv == 'd') {
            prefix = n.signum() < 0 ? "-" : entry.flags.contains("+") ? "+" : entry.flags.contains(" ") ? " " : "";
        } else if (entry.flags.contains("#") && entry.conv == 'o' && !d.startsWith("0")) {
            d = "0" + d;
        } else if (entry.flags.contains("#") && entry.conv != 'u' && entry.conv != 'o' && n.signum() != 0) {
            prefix = "0" + entry.conv;
        }
        while (entry.flags.contains("0") && p == null && prefix.length() + d.length() < zeroWidth) {
            d = "0" + d;
        }
        return prefix + d;
    }

    String out() {
        return out;
    }

    void clearInput() {
        in = "";
    }

    int putInputChar(char c) {
        if (in.length() == 256) {
            return -10;
        }
        in += c;
        return in.length();
    }

    int copyOutputToInput() {
        in = out;
        return in.length();
    }

    int scan() {
        if (table == null) {
            return -9;
        }
        if (badStars()) {
            return -5;
        }
        res = new long[8];
        mask = 0;
        end = 0;
        int count = 0;
        for (Entry entry : table) {
            if (entry.isLiteral()) {
                if (!matches(entry.literal)) {
                    return count;
                }
            } else {
                Long value = value(entry);
                if (value == null) {
                    return count;
                }
                res[entry.slot] = value;
                mask |= 1 << entry.slot;
                count++;
            }
        }
        return count;
    }

    private boolean matches(CharSequence literal) {
        for (int i = 0; i < literal.length(); i++) {
            if (WHITE.indexOf(literal.charAt(i)) >= 0) {
                end = pastWhite();
            } else if (in.startsWith(literal.subSequence(i, i + 1).toString(), end)) {
                end++;
            } else {
                return false;
            }
        }
        return true;
    }

    private int pastWhite() {
        int at = end;
        while (at < in.length() && WHITE.indexOf(in.charAt(at)) >= 0) {
            at++;
        }
        return at;
    }

    /** Moves end and answers the value, or answers null and leaves end. */
    private Long value(Entry entry) {
        if (entry.conv == 'c') {
            return end < in.length() ? Long.valueOf(in.charAt(end++)) : null;
        }
        int from = pastWhite();
        int w = width(entry);
        int most = entry.conv == 's' ? (w >= 1 && w <= 8 ? w : 8) : (w >= 1 ? w : 1000);
        String reach = in.substring(from, Math.min(in.length(), from + most));
        String pattern = switch (entry.conv) {
            case 'd' -> "(?<sign>[-+]?)(?<digits>[0-9]+)";
            case 'u' -> "(?<sign>)(?<digits>[0-9]+)";
            case 'o' -> "(?<sign>)(?<digits>[0-7]+)";
            case 's' -> "(?<sign>)(?<digits>[\\x01-\\x08\\x0E-\\x1F\\x21-\\xFF]+)";
            default -> "(?<sign>)(?:0[xX](?=[0-9a-fA-F]))?(?<digits>[0-9a-fA-F]+)";
        };
        Matcher m = Pattern.compile(pattern).matcher(reach);
        if (!m.lookingAt()) {
            return null;
        }
        end = from + m.end();
        if (entry.conv == 's') {
            BigInteger sum = BigInteger.ZERO;
            for (int k = 0; k < m.end(); k++) {
                sum = sum.add(BigInteger.valueOf(reach.charAt(k)).shiftLeft(8 * k));
            }
            return sum.longValue();
        }
        BigInteger v = new BigInteger(m.group("digits"), base(entry.conv)).mod(TWO_64);
        return entry.narrowed(m.group("sign").equals("-") ? v.negate() : v).longValue();
    }

    String seen() {
        StringBuilder all = new StringBuilder();
        all.append("args ").append(argCount()).append(" kinds");
        for (int i = -1; i <= 64; i++) {
            all.append(' ').append(entryKind(i));
        }
        all.append(" out ").append(out.length()).append(" [").append(out).append("] results");
        for (long r : res) {
            all.append(' ').append(r);
        }
        all.append(" mask ").append(mask).append(" end ").append(end);
        return all.toString();
    }
}
