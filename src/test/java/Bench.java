import java.nio.charset.StandardCharsets;

/** A machine on the bench: texts go in as strings, stacks and the out come back as strings. */
final class Bench {
    static final int STEPS = 5000;

    // The cells of memory that machines are compared by: of more of them there are too few calls.
    private static final int[] CELLS = {0, 1, 2, 3, 4, 5, 6, 7, 8, 398, 399, 400, 401, 402, 403,
        404, 405, 406, 407, 408, 409, 410, 411, 412, 419, 420, 500, 998, 999};

    final Machine machine = new Machine();

    /** What a new machine comes to with a text: its data stack, or its error. */
    static String after(String text) {
        return new Bench().then(text);
    }

    /** What a new machine says, run with a text that it must come to the end of. */
    static String said(String text) {
        Bench bench = new Bench();
        bench.then(text);
        return bench.out();
    }

    Bench feed(String text) {
        byte[] bytes = text.getBytes(StandardCharsets.ISO_8859_1);
        for (int from = 0; from < bytes.length; from += 8) {
            int n = Math.min(8, bytes.length - from);
            long eight = 0;
            for (int i = n - 1; i >= 0; i--) {
                eight = eight << 8 | bytes[from + i] & 255;
            }
            machine.feed(eight, n);
        }
        return this;
    }

    /** Feeds and runs: the data stack, the lowest cell first, or the error, or that it runs on. */
    String then(String text) {
        feed(text);
        return outcome(machine.run(STEPS));
    }

    Bench with(String text) {
        then(text);
        return this;
    }

    Bench push(int n, int a) {
        for (int i = 0; i < n; i++) {
            machine.push(a);
        }
        return this;
    }

    String outcome(int result) {
        if (result == ColonMachine.ERROR) {
            return "error " + machine.code();
        }
        return result == ColonMachine.RUNNING ? "running" : stack();
    }

    String stack() {
        StringBuilder cells = new StringBuilder();
        for (int k = machine.told(0) - 1; k >= 0; k--) {
            cells.append(machine.pick(k)).append(k == 0 ? "" : " ");
        }
        return cells.toString();
    }

    String out() {
        StringBuilder said = new StringBuilder();
        int size = machine.out();
        long eight = 0;
        for (int i = 0; i < size; i++) {
            eight = i % 8 == 0 ? machine.word(i / 8) : eight >>> 8;
            said.append((char) (eight & 255));
        }
        return said.toString();
    }

    /** What the face tells but for the data stack, to compare a machine before and after. */
    String rest() {
        StringBuilder rest = new StringBuilder(out()).append('|').append(machine.code());
        for (int what = 1; what < 8; what++) {
            rest.append(' ').append(machine.told(what));
        }
        for (int cell : CELLS) {
            rest.append(',').append(peeked(cell));
        }
        return rest.toString();
    }

    String all() {
        return stack() + "|" + rest();
    }

    String peeked(int cell) {
        try {
            return Integer.toString(machine.peek(cell));
        } catch (IndexOutOfBoundsException e) {
            return "none";
        }
    }

    String told(int... whats) {
        StringBuilder told = new StringBuilder();
        for (int what : whats) {
            told.append(told.length() == 0 ? "" : " ").append(machine.told(what));
        }
        return told.toString();
    }

    static String times(int n, String text) {
        return text.repeat(n);
    }
}
