/** Promises 1 to 11: each call of the face up to its bounds, on them and beyond them. */
public final class FaceEdgeTest {
    private static final Class<?> ARGUMENT = IllegalArgumentException.class;
    private static final Class<?> STATE = IllegalStateException.class;
    private static final Class<?> INDEX = IndexOutOfBoundsException.class;
    private static final int[] FAR = {Integer.MIN_VALUE, Integer.MIN_VALUE + 1, -1000, -2, -1,
        Integer.MAX_VALUE - 1, Integer.MAX_VALUE};

    public static void main(String[] args) {
        newObject();
        feed();
        feedRefused();
        runArguments();
        runDone();
        runRunning();
        runError();
        runGoesOn();
        code();
        pick();
        push();
        peek();
        toldOfStacks();
        toldOfWordsAndHeap();
        toldWhileCompiling();
        toldOfOthers();
        out();
        word();
        wordsOfAFullOut();
        clear();
        Check.end();
    }

    private static void newObject() {
        Check.of("ColonMachine(): As told");
        Bench bench = new Bench();
        Check.due("told", bench.told(0, 1, 2, 3, 4, 5, 6, 7), "0 0 0 0 1 0 0 0");
        Check.due("code", bench.machine.code(), 0);
        Check.due("out", bench.machine.out(), 0);
        Check.due("word", bench.machine.word(0), 0);
        Check.due("memory", bench.peeked(0) + bench.peeked(1) + bench.peeked(400), "10nonenone");
        Check.due("text", bench.machine.feed(' ', 1), 1);
        Check.due("run", bench.machine.run(1), ColonMachine.DONE);
        Check.due("clear", bench.machine.clear(), 0);
    }

    private static void feed() {
        Check.of("feed: The n lowest of eight bytes come behind the text, the lowest one first: how"
                + " many it has");
        String digits = "12345678";
        for (int n = 1; n <= 8; n++) {
            Bench bench = new Bench();
            Check.due("how many, " + n, bench.machine.feed(0x3837363534333231L, n), n);
            Check.due("which, " + n, bench.then(""), digits.substring(0, n));
            Bench behind = new Bench().feed("9");
            Check.due("behind, " + n, behind.machine.feed(0x3837363534333231L, n), n + 1);
            Check.due("behind, " + n, behind.then(" "), "9" + digits.substring(0, n));
        }
        Machine negative = new Machine();
        Check.due("a long below 0", negative.feed(-1L, 8), 8);
        Check.due("is a word of bytes 255", negative.run(1), ColonMachine.ERROR);
        Check.due("that is nothing", negative.code(), -13);
    }

    private static void feedRefused() {
        Check.of("feed: IllegalArgument: n is not 1 .. 8");
        Bench bench = new Bench().feed("1");
        for (int n : new int[] {0, 9, 10, 16, 64, 500}) {
            Check.thrown("n = " + n, ARGUMENT, () -> bench.machine.feed(0x3232323232323232L, n));
        }
        for (int n : FAR) {
            Check.thrown("n = " + n, ARGUMENT, () -> bench.machine.feed(0x3232323232323232L, n));
        }
        Check.due("nothing came", bench.machine.feed('2', 1), 2);
        Check.due("nothing came", bench.then(""), "12");
        Check.of("feed: IllegalState: there would be more than 500");
        Bench full = new Bench().feed(Bench.times(499, " "));
        Check.thrown("501", STATE, () -> full.machine.feed(0x3131L, 2));
        Check.due("500", full.machine.feed('5', 1), 500);
        Check.thrown("501", STATE, () -> full.machine.feed('6', 1));
        Check.due("what was refused did not come", full.then(""), "5");
    }

    private static void runArguments() {
        Check.of("run: IllegalArgument: n is not 1 .. 5000");
        Bench bench = new Bench().feed("1 2");
        for (int n : new int[] {0, 5001, 5002, 10000}) {
            Check.thrown("run " + n, ARGUMENT, () -> bench.machine.run(n));
        }
        for (int n : FAR) {
            Check.thrown("run " + n, ARGUMENT, () -> bench.machine.run(n));
        }
        Check.due("nothing is done", bench.told(0), "0");
        Check.due("run 1", bench.machine.run(1), ColonMachine.RUNNING);
        Check.due("run 5000", bench.machine.run(5000), ColonMachine.DONE);
    }

    private static void runDone() {
        Check.of("run: before each of them, and behind the last one: when there are no calls, bytes"
                + " up to 32 are gone over, and if none is left then: DONE");
        Check.due("no text", new Machine().run(1), ColonMachine.DONE);
        Check.due("blanks", new Bench().feed(" \0\n ").machine.run(1), ColonMachine.DONE);
        Check.due("behind the last step", new Bench().feed("1").machine.run(1),
                ColonMachine.DONE);
        Check.due("behind it blanks are gone over", new Bench().feed("1 \n\0 ").machine.run(1),
                ColonMachine.DONE);
        Bench gone = new Bench().feed("   ");
        gone.machine.run(1);
        Check.due("they do not count", gone.machine.feed(' ', 1), 1);
        Bench behind = new Bench().feed("1    2");
        behind.machine.run(1);
        Check.due("nor behind the last step", behind.machine.feed(' ', 1), 2);
        Bench called = new Bench().with(": f ;").feed("f    ");
        Check.due("with a call it is not done", called.machine.run(1), ColonMachine.RUNNING);
        Check.due("and no byte is gone over", called.machine.feed(' ', 1), 4);
        Check.due("the END", called.machine.run(1), ColonMachine.DONE);
        Check.due("now they are", called.machine.feed(' ', 1), 1);
        Bench compiling = new Bench().feed(": f 5");
        Check.due("while compiling", compiling.machine.run(9), ColonMachine.DONE);
    }

    private static void runRunning() {
        Check.of("run: RUNNING, when n are done");
        Bench bench = new Bench().feed(Bench.times(10, "1 "));
        for (int i = 1; i <= 9; i++) {
            Check.due("step " + i, bench.machine.run(1), ColonMachine.RUNNING);
            Check.due("cells " + i, bench.told(0), Integer.toString(i));
        }
        Check.due("the last", bench.machine.run(1), ColonMachine.DONE);
        Check.due("nine of ten", new Bench().feed(Bench.times(10, "1 ")).machine.run(9),
                ColonMachine.RUNNING);
        Check.due("ten of ten", new Bench().feed(Bench.times(10, "1 ")).machine.run(10),
                ColonMachine.DONE);
        // the call, and then an item each: one 1+ of every two steps
        Bench counting = new Bench().with(": f 0 begin 1+ again ;").feed("f");
        Check.due("5000 steps", counting.machine.run(5000), ColonMachine.RUNNING);
        Check.due("2499 of them", counting.machine.pick(0), 2499);
        counting.machine.run(4999);
        Check.due("4999 more", counting.machine.pick(0), 2499 + 2500);
    }

    private static void runError() {
        Check.of("run: ERROR");
        Bench first = new Bench().feed("drop 1 2 3");
        Check.due("in the first step", first.machine.run(1), ColonMachine.ERROR);
        Bench last = new Bench().feed("1 drop drop 5");
        Check.due("before it", last.machine.run(2), ColonMachine.RUNNING);
        Check.due("in the last of n", last.machine.run(1), ColonMachine.ERROR);
        Check.due("the text is gone", last.machine.run(1), ColonMachine.DONE);
        Check.due("the rest was not done", last.told(0), "0");
        Bench many = new Bench().feed("drop 1 2 3");
        Check.due("no more steps are done", many.machine.run(5000), ColonMachine.ERROR);
        Check.due("no more steps are done", many.told(0), "0");
        Bench caught = new Bench().feed("' drop catch");
        Check.due("what is caught is none", caught.machine.run(5000), ColonMachine.DONE);
    }

    private static void runGoesOn() {
        Check.of("a run may be stopped at any of them and goes on");
        String text = "variable v : d create , does> @ + ; 5 d five : w 3 0 do i five"
                + " ['] five catch drop dup 7 > if leave then loop ; 1 w v ! ' nope";
        Bench whole = new Bench().feed(text);
        int steps = 0;
        int result = whole.machine.run(5000);
        Bench stepped = new Bench().feed(text);
        int got = ColonMachine.RUNNING;
        while (got == ColonMachine.RUNNING && steps < 200) {
            got = stepped.machine.run(1);
            steps++;
        }
        Check.due("what it comes to", got, result);
        Check.due("all of it", stepped.all(), whole.all());
        Bench pushed = new Bench().with(": f begin dup 5 = until ;").feed("1 f");
        pushed.machine.run(50);
        pushed.machine.push(5);
        Check.due("push between runs", pushed.outcome(pushed.machine.run(50)), "1 5");
    }

    private static void code() {
        Check.of("code: The code of the latest ERROR; 0 before there was one");
        Bench bench = new Bench();
        Check.due("none", bench.machine.code(), 0);
        bench.then("1 2 3");
        Check.due("none yet", bench.machine.code(), 0);
        bench.then("' drop catch 7 throw");
        Check.due("the first", bench.machine.code(), 7);
        bench.then("1 2 3");
        Check.due("it stays", bench.machine.code(), 7);
        bench.then("drop drop drop 0 throw ' drop catch");
        Check.due("no error changes it", bench.machine.code(), 7);
        bench.then("-2147483648 throw");
        Check.due("the latest", bench.machine.code(), Integer.MIN_VALUE);
        bench.then("2147483647 throw");
        Check.due("the latest", bench.machine.code(), Integer.MAX_VALUE);
    }

    private static void pick() {
        Check.of("pick: Cell k of the data stack from the top. IndexOutOfBounds: there is none");
        Machine empty = new Machine();
        Check.thrown("of none", INDEX, () -> empty.pick(0));
        Bench bench = new Bench();
        for (int i = 0; i < 64; i++) {
            bench.machine.push(i * i);
        }
        Check.due("0", bench.machine.pick(0), 63 * 63);
        Check.due("1", bench.machine.pick(1), 62 * 62);
        Check.due("63", bench.machine.pick(63), 0);
        Check.due("62", bench.machine.pick(62), 1);
        Check.thrown("64", INDEX, () -> bench.machine.pick(64));
        for (int k : FAR) {
            Check.thrown("pick " + k, INDEX, () -> bench.machine.pick(k));
        }
        Check.due("nothing has changed", bench.told(0), "64");
        bench.then("drop");
        Check.due("62 of 63", bench.machine.pick(62), 0);
        Check.thrown("63 of 63", INDEX, () -> bench.machine.pick(63));
    }

    private static void push() {
        Check.of("push: A cell is pushed. IllegalState: there are 64");
        Bench bench = new Bench();
        bench.machine.push(Integer.MIN_VALUE);
        bench.machine.push(Integer.MAX_VALUE);
        Check.due("on top", bench.stack(), "-2147483648 2147483647");
        bench.push(61, 5);
        Check.due("63", bench.told(0), "63");
        Check.thrown("the 64th", null, () -> bench.machine.push(6));
        Check.thrown("the 65th", STATE, () -> bench.machine.push(7));
        Check.thrown("the 65th", STATE, () -> bench.machine.push(7));
        Check.due("the topmost", bench.told(0) + " " + bench.machine.pick(0), "64 6");
    }

    private static void peek() {
        Check.of("peek: A cell of memory. IndexOutOfBounds: it is not valid");
        Bench bench = new Bench().with("5 , 6 , 2 allocate 2drop 7 401 !");
        Check.due("0", bench.machine.peek(0), 10);
        Check.due("1", bench.machine.peek(1), 5);
        Check.due("2", bench.machine.peek(2), 6);
        Check.due("400", bench.machine.peek(400), 0);
        Check.due("401", bench.machine.peek(401), 7);
        for (int cell : new int[] {3, 4, 398, 399, 402, 999, 1000, 1001}) {
            Check.thrown("peek " + cell, INDEX, () -> bench.machine.peek(cell));
        }
        for (int cell : FAR) {
            Check.thrown("peek " + cell, INDEX, () -> bench.machine.peek(cell));
        }
        bench.then("-2 allot 400 free");
        for (int cell : new int[] {1, 2, 400, 401}) {
            Check.thrown("no longer valid " + cell, INDEX, () -> bench.machine.peek(cell));
        }
    }

    private static void toldOfStacks() {
        Check.of("told: How many cells the data stack has (what = 0), the return stack (1);"
                + " calls (2)");
        Bench bench = new Bench().with(": f 1 >r 2 >r 3 begin again ;").feed("4 5 f");
        Check.due("nothing is done", bench.told(0, 1, 2), "0 0 0");
        bench.machine.run(3);
        Check.due("the call", bench.told(0, 1, 2), "2 0 1");
        bench.machine.run(2);
        Check.due("one cell", bench.told(0, 1, 2), "2 1 1");
        bench.machine.run(3);
        Check.due("two cells", bench.told(0, 1, 2), "3 2 1");
        Bench caught = new Bench().with(": f begin again ; ' f catch");
        Check.due("a catch and a call", caught.told(0, 1, 2), "0 0 2");
    }

    private static void toldOfWordsAndHeap() {
        Check.of("words of its own (3); HERE (4); blocks of the heap (5); cells in them (6)");
        Bench bench = new Bench();
        Check.due("none", bench.told(3, 4, 5, 6), "0 1 0 0");
        Check.due("a word", bench.with("create x").told(3, 4, 5, 6), "1 1 0 0");
        Check.due("and a cell", bench.with("variable x").told(3, 4, 5, 6), "2 2 0 0");
        Check.due("and a block", bench.with("3 allocate").told(3, 4, 5, 6), "2 2 1 3");
        Check.due("of one cell", bench.with("1 allocate").told(3, 4, 5, 6), "2 2 2 4");
        Check.due("none of them", bench.with("0 allocate").told(3, 4, 5, 6), "2 2 2 4");
        Check.due("longer", bench.with("403 9 resize").told(3, 4, 5, 6), "2 2 2 12");
        Check.due("freed", bench.with("400 free").told(3, 4, 5, 6), "2 2 1 9");
        Bench full = new Bench().with("399 allot 600 allocate");
        Check.due("all of it", full.told(3, 4, 5, 6), "0 400 1 600");
    }

    private static void toldWhileCompiling() {
        Check.of("whether it is compiling, 1 or 0 (7)");
        Bench bench = new Bench();
        Check.due("no", bench.told(7), "0");
        Check.due("yes", bench.with(": f").told(7), "1");
        Check.due("still", bench.with("5 if then").told(7), "1");
        Check.due("no more", bench.with(";").told(7), "0");
        Check.due("after an error", bench.with(": g nonesuch").told(7), "0");
    }

    private static void toldOfOthers() {
        Check.of("told: BAD for another what");
        Machine machine = new Machine();
        for (int what : new int[] {8, 9, 10, 100}) {
            Check.due("told " + what, machine.told(what), -1);
        }
        for (int what : FAR) {
            Check.due("told " + what, machine.told(what), ColonMachine.BAD);
        }
    }

    private static void out() {
        Check.of("out: How many bytes the out has");
        Bench bench = new Bench();
        Check.due("none", bench.machine.out(), 0);
        bench.then("cr");
        Check.due("one", bench.machine.out(), 1);
        bench.then("5 .");
        Check.due("and two", bench.machine.out(), 3);
        bench.then("nonesuch");
        Check.due("behind an error", bench.machine.out(), 3);
        bench.then(": f begin space again ; f");
        Check.due("full", bench.machine.out(), 800);
    }

    private static void word() {
        Check.of("word: Eight bytes of the out, from 8 i on, the first one lowest, 0 behind its"
                + " end; 0 when there are none");
        String letters = "abcdefghijklmnopq";
        for (int n = 0; n <= letters.length(); n++) {
            Bench bench = new Bench().with(".\" " + letters.substring(0, n) + "\"");
            for (int i = -1; i <= 3; i++) {
                Check.due(n + " bytes, word " + i, bench.machine.word(i),
                        eight(letters.substring(0, n), i));
            }
        }
        Bench bench = new Bench().with(".\" abc\"");
        for (int i : FAR) {
            Check.due("word " + i, bench.machine.word(i), 0);
        }
        // where 8 i runs over to 0
        Check.due("word of 2 to the 29th", bench.machine.word(1 << 29), 0);
        Check.due("word of -2 to the 29th", bench.machine.word(-(1 << 29)), 0);
        Check.due("word of 2 to the 30th", bench.machine.word(1 << 30), 0);
    }

    private static long eight(String said, int i) {
        long eight = 0;
        for (int k = 7; k >= 0; k--) {
            int place = 8 * i + k;
            eight = eight << 8 | (place >= 0 && place < said.length() ? said.charAt(place) : 0);
        }
        return i < 0 ? 0 : eight;
    }

    private static void wordsOfAFullOut() {
        Bench bench = new Bench().with(": f 800 0 do 255 emit loop ; f");
        Check.due("bytes", bench.machine.out(), 800);
        Check.due("the first word", bench.machine.word(0), -1);
        Check.due("the last word", bench.machine.word(99), -1);
        Check.due("none behind it", bench.machine.word(100), 0);
        bench.machine.clear();
        bench.then("1 emit");
        Check.due("of cleared bytes none is left", bench.machine.word(0), 1);
        Check.due("nor here", bench.machine.word(1), 0);
    }

    private static void clear() {
        Check.of("clear: The out is emptied: how many bytes it had");
        Bench bench = new Bench();
        Check.due("none", bench.machine.clear(), 0);
        bench.then("7 8 5 .");
        Check.due("two", bench.machine.clear(), 2);
        Check.due("none now", bench.machine.clear(), 0);
        Check.due("none now", bench.machine.out(), 0);
        Check.due("the stack stays", bench.stack(), "7 8");
        bench.then(": f begin space again ; f");
        Check.due("800", bench.machine.clear(), 800);
        Check.due("room for 800 again", bench.then("f"), "error -17");
        Check.due("800", bench.machine.clear(), 800);
    }
}
