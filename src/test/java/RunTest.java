/** Promise 3: what a run comes to, how its steps are counted, and how text is read. */
public final class RunTest {
    public static void main(String[] args) {
        arguments();
        countsSteps();
        countsStepsOfCalls();
        errors();
        readsWords();
        readsNumbers();
        looksUp();
        comments();
        Check.end();
    }

    private static void arguments() {
        Machine machine = new Machine();
        for (int n : new int[] {0, -1, 5001, Integer.MIN_VALUE, Integer.MAX_VALUE}) {
            Check.thrown("run " + n, IllegalArgumentException.class, () -> machine.run(n));
        }
        Check.thrown("run 1", null, () -> machine.run(1));
        Check.thrown("run 5000", null, () -> machine.run(5000));
        Bench bench = new Bench().feed("1 2");
        Check.thrown("run 0", IllegalArgumentException.class, () -> bench.machine.run(0));
        Check.due("a refused run does nothing", bench.machine.told(0), 0);
    }

    private static void countsSteps() {
        Machine machine = new Bench().feed(" 1 2 3 ").machine;
        Check.due("a step of three", machine.run(1), ColonMachine.RUNNING);
        Check.due("one word", machine.told(0), 1);
        Check.due("the rest", machine.run(2), ColonMachine.DONE);
        Check.due("three words", machine.told(0), 3);
        Check.due("nothing left", machine.run(1), ColonMachine.DONE);
        Machine blanks = new Bench().feed(" \n\t ").machine;
        Check.due("blanks alone", blanks.run(1), ColonMachine.DONE);
        Check.due("they are gone", blanks.feed(' ', 1), 1);
        // six steps of text, the call, the literal, and then two for each 1+
        Check.due("5000 steps", steps(": f 0 begin 1+ again ; f", 5000), "running 2496");
    }

    private static String steps(String text, int n) {
        Bench bench = new Bench().feed(text);
        String outcome = bench.outcome(bench.machine.run(n));
        return outcome + " " + bench.stack();
    }

    private static void countsStepsOfCalls() {
        // : sq dup * ; is four steps; then 7, sq, dup, *, END
        Check.due("before the end", steps(": sq dup * ; 7 sq", 8), "running 49");
        Check.due("with the end", steps(": sq dup * ; 7 sq", 9), "49 49");
        // ' dup, then catch with dup in one step, then the catch goes
        Check.due("catch and what it executes", steps("5 ' dup catch", 3), "running 5 5");
        Check.due("the catch goes", steps("5 ' dup catch", 4), "5 5 0 5 5 0");
        Check.due("execute is one step", steps("2 3 1012 1055 execute", 5), "5 5");
        Check.due("a comment is one step", steps("( a b c ) 5", 1), "running ");
        Check.due("create reads in its step", steps("create x x", 2), "1 1");
        Bench loop = new Bench().with(": w 3 0 do loop ;").feed("w");
        // the call, two literals, DO, three LOOPs, END
        Check.due("loop steps", loop.machine.run(7), ColonMachine.RUNNING);
        Check.due("both cells went", loop.machine.told(1), 0);
        Check.due("loop end", loop.machine.run(1), ColonMachine.DONE);
    }

    private static void errors() {
        Bench bench = new Bench();
        Check.due("error", bench.then("1 2 : f 3 >r nonesuch 4 5 6"), "error -13");
        int[] want = {0, 0, 0, 0, 1, 0, 0, 0};
        for (int what = 0; what < want.length; what++) {
            Check.due("told " + what + " after an error", bench.machine.told(what), want[what]);
        }
        Check.due("the text is gone", bench.machine.feed(' ', 1), 1);
        bench.then(": f 1 >r 0 0 / ; 1 2 3 f 4");
        Check.due("all is emptied", "" + bench.machine.told(0) + bench.machine.told(1)
                + bench.machine.told(2) + bench.machine.told(3), "0001");
        Check.due("error at the last step", steps("1 drop drop", 3), "error -4 ");
        bench.then(": g if");
        Check.due("what is compiled is dropped", bench.then("nonesuch : h 5 ; h"), "error -13");
        Check.due("nothing stays open", bench.then(": h 5 ; h"), "5");
        Bench keeps = new Bench();
        keeps.then("16 base ! variable x 3 allocate 5 . nonesuch");
        Check.due("memory, heap, words and out stay", keeps.machine.peek(0) + " "
                + keeps.machine.told(3) + keeps.machine.told(4) + keeps.machine.told(6)
                + keeps.machine.out(), "16 1232");
    }

    private static void readsWords() {
        Check.after("1\t2\n3\0" + "4\u001f5", "1 2 3 4 5");
        Check.after("5 DUP Drop dUP", "5 5");
        Check.after(": Ab 1 ; aB", "1");
        Check.after(": a@[ 1 ; : a`{ 2 ; A@[ A`{", "1 2");
        Check.after(": 12345678 9 ; 12345678", "9");
        Check.after(": 123456789 9 ;", "error -16");
        Check.after("create 123456789", "error -16");
        Check.after("5 constant 123456789", "error -16");
        Check.after("variable", "error -16");
        Check.after("marker  ", "error -16");
        Check.after(":", "error -16");
        Check.after("5 constant", "error -16");
        Bench split = new Bench().feed("12");
        split.machine.run(1);
        Check.due("a word ends with the text", split.then("34"), "12 34");
        Bench joined = new Bench().feed("12").feed("34");
        Check.due("feeds are joined", joined.then(""), "1234");
    }

    private static void readsNumbers() {
        Check.after("0 -0 007 -12", "0 0 7 -12");
        Check.after("2147483647 2147483648 -2147483648", "2147483647 -2147483648 -2147483648");
        Check.after("4294967295 4294967296 4294967303", "-1 0 7");
        Check.after("-4294967297 100000000000000000000", "-1 1661992960");
        Check.after("--1", "error -13");
        Check.after("1-", "error -4");
        Check.after("1a", "error -13");
        Check.after("1.", "error -13");
        Check.after("16 base ! ff -FF fg", "error -13");
        Check.after("16 base ! ff -FF 7fffffff 123456789", "255 -255 2147483647 591751049");
        Check.after("36 base ! z -Z 10", "35 -35 36");
        Check.after("2 base ! 101", "5");
        Check.after("11 base ! a -a0 1a9", "10 -110 240");
        Check.after("11 base ! b", "error -13");
        Check.after("2 base ! 2", "error -13");
        Check.after("1 base ! 0", "error -13");
        Check.after("37 base ! 1", "error -13");
        Check.after("-10 base ! 1", "error -13");
        Check.after("0 base ! base @", "0");
    }

    private static void looksUp() {
        Check.after(": dup 7 ; dup", "7");
        Check.after(": 5 6 ; 5", "6");
        Check.after(": a 1 ; : a 2 ; a", "2");
        Check.after(": a 1 ; : a a 1+ ; a", "2");
        Check.after(": if 3 ; if : b if ; b", "3 3");
        Check.after("nonesuch", "error -13");
        Check.after(": a nonesuch ;", "error -13");
        Check.after("immediat", "error -13");
        Check.after("immediatel", "error -13");
        Check.after("du", "error -13");
        Check.after("dupp", "error -13");
        Check.after("\u00e4", "error -13");
    }

    private static void comments() {
        Check.after("1 ( 2 ) 3", "1 3");
        Check.after("1 ( 2 )3", "1 3");
        Check.after("1 ( 2 3", "1");
        Check.after("1 (2)", "error -13");
        Check.after("1 \\ 2 3\n4", "1 4");
        Check.after("1 \\ 2 3", "1");
        // the byte behind a word is gone over with it: the comment is of the next line then
        Check.after("1 \\\n2\n3", "1 3");
        Check.after(": a 1 ( 2 ) \\ 3\n 4 ; a", "1 4");
        Check.after("( 1 )", "");
        Check.after("\\ 1", "");
    }
}
