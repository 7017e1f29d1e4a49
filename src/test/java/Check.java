import java.util.Objects;

/** What every test here needs: an object under test, the answers that are due, and the count of wrong ones. */
final class Check {
    final FormatScanner x;
    private static int wrong = 0;

    private Check(int cap) {
        x = new FormatScanner(cap);
    }

    static Check fresh(int cap) {
        return new Check(cap);
    }

    /** A fresh object of the greatest capacity with this format put in, not compiled yet. */
    static Check with(String format) {
        return fresh(256).format(format);
    }

    Check format(String format) {
        x.clearFormat();
        for (char c : format.toCharArray()) {
            x.putFormatChar(c);
        }
        return this;
    }

    Check compiled(String format) {
        format(format);
        x.compile();
        return this;
    }

    Check args(long... values) {
        for (int slot = 0; slot < values.length; slot++) {
            x.setArg(slot, values[slot]);
        }
        return this;
    }

    Check input(String text) {
        x.clearInput();
        for (char c : text.toCharArray()) {
            x.putInputChar(c);
        }
        return this;
    }

    String out() {
        StringBuilder text = new StringBuilder();
        for (int i = 0; i < x.outLength(); i++) {
            text.append(x.outChar(i));
        }
        return text.toString();
    }

    /** All that can be seen without changing anything. */
    String seen() {
        StringBuilder all = new StringBuilder();
        all.append("args ").append(x.argCount()).append(" kinds");
        for (int i = -1; i <= FormatScanner.MAX_FORMAT; i++) {
            all.append(' ').append(x.entryKind(i));
        }
        all.append(" out ").append(x.outLength()).append(" [").append(out()).append("] results");
        for (int slot = 0; slot < FormatScanner.SLOTS; slot++) {
            all.append(' ').append(x.scanned(slot));
        }
        all.append(" mask ").append(x.scanMask()).append(" end ").append(x.scanEnd());
        return all.toString();
    }

    static void due(String call, Object got, Object want) {
        if (!Objects.equals(got, want)) {
            wrong++;
            if (wrong <= 50) {
                System.out.println(call + " answered " + got + ", due is " + want);
            }
        }
    }

    static void compiles(String format, int want) {
        due("compile of '" + format + "'", with(format).x.compile(), want);
    }

    static void renders(String format, String want, long... values) {
        Check check = fresh(256).compiled(format).args(values);
        String call = "render of '" + format + "' with " + java.util.Arrays.toString(values);
        due(call, check.x.render(), want.length());
        due(call + ", the text", check.out(), want);
    }

    static void renderFails(String format, int want, long... values) {
        Check check = fresh(256).compiled(format).args(values);
        due("render of '" + format + "' with " + java.util.Arrays.toString(values), check.x.render(), want);
    }

    /** The results are those of the slots 0, 1, 2, .. as far as given. */
    static void scans(String format, String text, int count, int mask, int end, long... results) {
        Check check = fresh(256).compiled(format).input(text);
        check.scanIs("scan of '" + text + "' by '" + format + "'", count, mask, end, results);
    }

    void scanIs(String call, int count, int mask, int end, long... results) {
        due(call, x.scan(), count);
        due(call + ", scanMask", x.scanMask(), mask);
        due(call + ", scanEnd", x.scanEnd(), end);
        for (int slot = 0; slot < FormatScanner.SLOTS; slot++) {
            due(call + ", scanned(" + slot + ")", x.scanned(slot), slot < results.length ? results[slot] : 0L);
        }
    }

    static void finish() {
        if (wrong != 0) {
            System.out.println(wrong + " answers are not as due");
            System.exit(1);
        }
    }
}
