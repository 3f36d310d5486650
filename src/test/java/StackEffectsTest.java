import java.util.Arrays;

/**
 * Promise 3: each primitive with just the cells that it takes, with one less, and on a full stack.
 */
public final class StackEffectsTest {
    // the word with what it reads; the cells that it takes; how many it leaves
    private static final String[] EFFECTS = {
        "dup;5;2", "drop;5;0", "swap;5 6;2", "over;5 6;3", "rot;5 6 7;3", "nip;5 6;1",
        "tuck;5 6;3", "?dup;5;2", "?dup;0;1", "pick;5 0;2", "depth;;1", "2dup;5 6;4",
        "2drop;5 6;0", "+;5 6;1", "-;5 6;1", "*;5 6;1", "/;5 6;1", "mod;5 6;1", "/mod;5 6;2",
        "*/;5 6 7;1", "negate;5;1", "abs;5;1", "min;5 6;1", "max;5 6;1", "1+;5;1", "1-;5;1",
        "2*;5;1", "2/;5;1", "and;5 6;1", "or;5 6;1", "xor;5 6;1", "invert;5;1", "lshift;5 6;1",
        "rshift;5 6;1", "=;5 6;1", "<>;5 6;1", "<;5 6;1", ">;5 6;1", "u<;5 6;1", "0=;5;1",
        "0<;5;1", "@;0;1", "!;10 0;0", "+!;0 0;0", ",;5;0", "allot;1;0", "here;;1", "base;;1",
        ".;5;0", "u.;5;0", "emit;5;0", "cr;;0", "space;;0", "execute;1009;1", "execute;1053;0",
        "catch;1053;1", "throw;0;0", "allocate;1;2", "allocate;-1;2", "free;1;1",
        "resize;400 1;2", "create x;;0", "variable x;;0", "constant x;5;0", "marker x;;0",
        "' dup;;1", "immediate;;0", "7;;1"};

    // bodies that come to an end with 64 cells, and bodies that need one more
    private static final String[] FIT = {">r r>", ">r r@ drop r>", ">r >r i drop r> r>",
        ">r >r >r >r j drop r> r> r> r>", ">r >r unloop", "exit", "2drop 2 0 do loop",
        "drop 5 drop", "drop if then", "2drop ?do loop", "2drop 2 0 do 1 +loop", "cr"};
    private static final String[] DO_NOT_FIT = {">r r@ r>", ">r >r i i i", ">r >r >r >r j j j j j",
        "5", "drop 5 5", "2drop 2 0 do i i i loop"};

    public static void main(String[] args) {
        for (String effect : EFFECTS) {
            String[] parts = effect.split(";");
            String[] cells = parts[1].isEmpty() ? new String[0] : parts[1].split(" ");
            justEnough(parts[0], cells, Integer.parseInt(parts[2]));
            full(parts[0], cells, Integer.parseInt(parts[2]));
        }
        for (String body : FIT) {
            Bench bench = new Bench().with(": f " + body + " ;").push(64, 1);
            bench.then("f");
            Check.due("64 cells fit: " + body, bench.machine.code(), 0);
        }
        for (String body : DO_NOT_FIT) {
            Bench bench = new Bench().with(": f " + body + " ;").push(64, 1);
            Check.due("64 cells do not: " + body, bench.then("f"), "error -3");
        }
        Check.end();
    }

    private static void justEnough(String word, String[] cells, int leaves) {
        Bench bench = pushed(new Bench(), cells);
        bench.then(word);
        Check.due("just enough for " + word, bench.machine.code() + " " + bench.machine.told(0),
                "0 " + leaves);
        if (cells.length > 0) {
            Bench less = pushed(new Bench(), Arrays.copyOfRange(cells, 1, cells.length));
            Check.due("too few for " + word, less.then(word), "error -4");
        }
    }

    private static void full(String word, String[] cells, int leaves) {
        Bench bench = pushed(new Bench().push(64 - cells.length, 1), cells);
        bench.then(word);
        boolean fits = leaves <= cells.length;
        Check.due("64 cells, " + word, bench.machine.code() + " " + bench.machine.told(0),
                fits ? "0 " + (64 - cells.length + leaves) : "-3 0");
    }

    private static Bench pushed(Bench bench, String[] cells) {
        for (String cell : cells) {
            bench.machine.push(Integer.parseInt(cell));
        }
        return bench;
    }
}
