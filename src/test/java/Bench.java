import java.nio.charset.StandardCharsets;

/** A machine on the bench: texts go in as strings, stacks and the out come back as strings. */
final class Bench {
    static final int STEPS = 5000;

    final ColonMachine machine = new ColonMachine();

    /** What a new machine comes to with a text: its data stack, or its error. */
    static String after(String text) {
        return new Bench().then(text);
    }

    /** What a new machine says, run with a text that it must come to the end of. */
    static String said(String text) {
        Bench bench = new Bench();
        bench.then(text);
        return bench.out();
    }

    Bench feed(String text) {
        byte[] bytes = text.getBytes(StandardCharsets.ISO_8859_1);
        for (int from = 0; from < bytes.length; from += 8) {
            int n = Math.min(8, bytes.length - from);
            long eight = 0;
            for (int i = n - 1; i >= 0; i--) {
                eight = eight << 8 | bytes[from + i] & 255;
            }
            machine.feed(eight, n);
        }
        return this;
    }

    /** Feeds and runs: the data stack, the lowest cell first, or the error, or that it runs on. */
    String then(String text) {
        feed(text);
        return outcome(machine.run(STEPS));
    }

    Bench with(String text) {
        then(text);
        return this;
    }

    Bench push(int n, int a) {
        for (int i = 0; i < n; i++) {
            machine.push(a);
        }
        return this;
    }

    String outcome(int result) {
        if (result == ColonMachine.ERROR) {
            return "error " + machine.code();
        }
        return result == ColonMachine.RUNNING ? "running" : stack();
    }

    String stack() {
        StringBuilder cells = new StringBuilder();
        for (int k = machine.told(0) - 1; k >= 0; k--) {
            cells.append(machine.pick(k)).append(k == 0 ? "" : " ");
        }
        return cells.toString();
    }

    String out() {
        StringBuilder said = new StringBuilder();
        for (int i = 0; i < machine.out(); i++) {
            said.append((char) (machine.word(i / 8) >>> 8 * (i % 8) & 255));
        }
        return said.toString();
    }

    /** What the face tells but for the memory, to compare two machines by. */
    String most() {
        StringBuilder most = new StringBuilder(stack()).append('|').append(out()).append('|');
        for (int what = 0; what < 8; what++) {
            most.append(machine.told(what)).append(' ');
        }
        return most.append(machine.code()).toString();
    }

    String all() {
        StringBuilder all = new StringBuilder(most());
        for (int cell = 0; cell < 1000; cell++) {
            all.append(',').append(peeked(cell));
        }
        return all.toString();
    }

    String peeked(int cell) {
        try {
            return Integer.toString(machine.peek(cell));
        } catch (IndexOutOfBoundsException e) {
            return "none";
        }
    }

    static String times(int n, String text) {
        return text.repeat(n);
    }
}
