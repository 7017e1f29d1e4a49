import java.util.function.Consumer;
import java.util.function.Supplier;

/** The parts of the state that the document names, each read as a text; reading may change the object read. */
enum Part {
    FORMAT {
        @Override
        String read(Check check) {
            StringBuilder all = new StringBuilder();
            all.append(check.x.compile()).append(' ').append(TABLE.read(check));
            // A directive that the format leaves open shows what it holds once it is closed.
            all.append(" then ").append(check.x.putFormatChar('d'));
            all.append(' ').append(check.x.compile()).append(' ').append(TABLE.read(check));
            return all.toString();
        }
    },
    TABLE {
        @Override
        String read(Check check) {
            StringBuilder all = new StringBuilder("args ").append(check.x.argCount()).append(" kinds");
            for (int i = -1; i <= FormatScanner.MAX_FORMAT; i++) {
                all.append(' ').append(check.x.entryKind(i));
            }
            check.args(2, 3, 1, 4, 0, 5, 6, 7);
            return all.append(" renders ").append(check.x.render()).append(check.out()).toString();
        }
    },
    ARGS {
        @Override
        String read(Check check) {
            StringBuilder all = new StringBuilder();
            for (int slot = 0; slot < FormatScanner.SLOTS; slot++) {
                // No char of the slots before, so that any capacity has room for this one.
                check.compiled("%.0s".repeat(slot) + "%lx").x.render();
                all.append(check.out()).append(' ');
            }
            return all.toString();
        }
    },
    OUT {
        @Override
        String read(Check check) {
            return check.x.outLength() + " " + check.out();
        }
    },
    INPUT {
        @Override
        String read(Check check) {
            StringBuilder all = new StringBuilder();
            // The first chars, the first 64 that are no whitespace, and every digit of an input of digits alone.
            for (String directive : new String[] {"%c", "%s", "%32lu"}) {
                all.append(check.compiled(directive.repeat(8)).x.scan()).append(' ').append(RESULTS.read(check));
            }
            return all.append(" then ").append(check.x.putInputChar('x')).toString();
        }
    },
    RESULTS {
        @Override
        String read(Check check) {
            StringBuilder all = new StringBuilder();
            for (int slot = 0; slot < FormatScanner.SLOTS; slot++) {
                all.append(check.x.scanned(slot)).append(' ');
            }
            return all.append("mask ").append(check.x.scanMask()).append(" end ").append(check.x.scanEnd()).toString();
        }
    };

    abstract String read(Check check);

    /** Every part but those named is the same with the call as without it. */
    static void keptBut(String call, Supplier<Check> state, Consumer<FormatScanner> made, Part... changed) {
        for (Part part : values()) {
            if (java.util.Arrays.asList(changed).contains(part)) {
                continue;
            }
            Check with = state.get();
            made.accept(with.x);
            Check.due(part + " after " + call, part.read(with), part.read(state.get()));
        }
    }

    static void allKept(String call, Supplier<Check> state, Consumer<FormatScanner> made) {
        keptBut(call, state, made);
    }
}
