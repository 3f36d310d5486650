/** Promises 1, 2 and 4 to 11: each call of the face but run. */
public final class FaceTest {
    private static final Class<?> ARGUMENT = IllegalArgumentException.class;
    private static final Class<?> STATE = IllegalStateException.class;
    private static final Class<?> INDEX = IndexOutOfBoundsException.class;

    public static void main(String[] args) {
        newObject();
        feed();
        feedAndReading();
        code();
        pick();
        push();
        peek();
        told();
        out();
        word();
        clear();
        Check.end();
    }

    private static void newObject() {
        Machine machine = new Machine();
        Check.due("new code", machine.code(), 0);
        int[] want = {0, 0, 0, 0, 1, 0, 0, 0};
        for (int what = 0; what < want.length; what++) {
            Check.due("new told " + what, machine.told(what), want[what]);
        }
        Check.due("new out", machine.out(), 0);
        Check.due("new word", machine.word(0), 0);
        Check.due("new base", machine.peek(0), 10);
        Check.due("new run", machine.run(1), ColonMachine.DONE);
        Check.due("constants", "" + ColonMachine.BAD + ColonMachine.DONE + ColonMachine.RUNNING
                + ColonMachine.ERROR, "-1012");
        Bench one = new Bench();
        Bench other = new Bench();
        one.then("1 2 variable x 5 .");
        Check.due("objects are apart", other.all(), new Bench().all());
    }

    private static void feed() {
        Machine machine = new Machine();
        Check.thrown("feed 0", ARGUMENT, () -> machine.feed(1, 0));
        Check.thrown("feed -1", ARGUMENT, () -> machine.feed(1, -1));
        Check.thrown("feed 9", ARGUMENT, () -> machine.feed(1, 9));
        Check.thrown("feed least", ARGUMENT, () -> machine.feed(1, Integer.MIN_VALUE));
        Check.due("nothing came", machine.run(1), ColonMachine.DONE);
        // '1' '2' ' ' and then bytes that are not among the three lowest
        Check.due("feed 3", machine.feed(0x3939393939203231L, 3), 3);
        machine.run(9);
        Check.due("the lowest is first", machine.pick(0), 12);
        for (int i = 1; i <= 62; i++) {
            Check.due("feed " + i, machine.feed(0x2020202020202020L, 8), 8 * i);
        }
        Check.thrown("501", STATE, () -> machine.feed(0x2020202020202020L, 5));
        Check.thrown("a wrong n comes first", ARGUMENT, () -> machine.feed(1, 9));
        Check.due("500", machine.feed(0x35202020L, 4), 500);
        Check.thrown("one more", STATE, () -> machine.feed(1, 1));
        Check.due("500 are run", machine.run(9), ColonMachine.DONE);
        Check.due("the last byte came", machine.pick(0), 5);
        Check.due("there is room again", machine.feed(1, 1), 1);
        Check.due("a byte of 255", Bench.after(": \u00ff\u0080 5 ; \u00ff\u0080"), "5");
    }

    private static void feedAndReading() {
        Machine machine = new Bench().feed("  1 2  3 ").machine;
        machine.run(1);
        // "1 " is read, and without calls no byte is gone over before 2
        Check.due("read bytes do not count", machine.feed(' ', 1), 6);
        machine.run(1);
        Check.due("bytes up to 32 behind the last step go", machine.feed(' ', 1), 4);
        machine.run(1);
        Check.due("all read", machine.feed('4', 1), 1);
        Machine looping = new Bench().with(": f begin again ;").feed("f  5 ").machine;
        looping.run(10);
        Check.due("with calls nothing is gone over", looping.feed(' ', 1), 4);
    }

    private static void code() {
        Bench bench = new Bench();
        bench.then("1 2");
        Check.due("no error", bench.machine.code(), 0);
        bench.then("nonesuch");
        Check.due("an error", bench.machine.code(), -13);
        bench.then("1 2 +");
        Check.due("the latest error stays", bench.machine.code(), -13);
        bench.then("77 throw");
        Check.due("another error", bench.machine.code(), 77);
        bench.then(": t 5 throw ; ' t catch");
        Check.due("what is caught is no error", bench.machine.code(), 77);
    }

    private static void pick() {
        Bench bench = new Bench();
        Machine machine = bench.machine;
        Check.thrown("pick of none", INDEX, () -> machine.pick(0));
        bench.then("11 22 33");
        Check.due("pick 0", machine.pick(0), 33);
        Check.due("pick 2", machine.pick(2), 11);
        Check.thrown("pick 3", INDEX, () -> machine.pick(3));
        Check.thrown("pick -1", INDEX, () -> machine.pick(-1));
        Check.thrown("pick least", INDEX, () -> machine.pick(Integer.MIN_VALUE));
        Check.thrown("pick greatest", INDEX, () -> machine.pick(Integer.MAX_VALUE));
        bench.then("drop");
        Check.thrown("pick of one that went", INDEX, () -> machine.pick(2));
    }

    private static void push() {
        Bench bench = new Bench();
        bench.push(1, -7).push(1, 9);
        Check.due("pushed", bench.stack(), "-7 9");
        bench.push(62, 5);
        Check.due("64", bench.machine.told(0), 64);
        Check.thrown("a 65th", STATE, () -> bench.machine.push(1));
        Check.due("still 64", bench.machine.told(0), 64);
        bench.then("drop");
        Check.thrown("room again", null, () -> bench.machine.push(1));
    }

    private static void peek() {
        Bench bench = new Bench();
        Machine machine = bench.machine;
        Check.due("base", machine.peek(0), 10);
        for (int cell : new int[] {-1, 1, 399, 400, 999, 1000, Integer.MIN_VALUE,
                Integer.MAX_VALUE}) {
            Check.thrown("new peek " + cell, INDEX, () -> machine.peek(cell));
        }
        bench.then("7 , 8 , 3 allocate 9 402 !");
        Check.due("below here", bench.peeked(1) + bench.peeked(2) + bench.peeked(3), "78none");
        Check.due("block", bench.peeked(400) + bench.peeked(402) + bench.peeked(403), "09none");
        bench.then("399 here - allot");
        Check.due("to the end", bench.peeked(398) + bench.peeked(399), "0none");
        bench.then("1 allot");
        Check.due("to the very end", bench.peeked(399) + bench.peeked(400), "00");
    }

    private static void told() {
        Bench bench = new Bench();
        Machine machine = bench.machine;
        bench.then(": f 5 >r 6 >r begin again ; create a 3 allot 2 allocate 4 allocate");
        bench.feed("' f catch");
        machine.run(20);
        int[] want = {4, 2, 2, 2, 4, 2, 6, 0};
        for (int what = 0; what < want.length; what++) {
            Check.due("told " + what, machine.told(what), want[what]);
        }
        Check.due("told -1", machine.told(-1), ColonMachine.BAD);
        Check.due("told 8", machine.told(8), ColonMachine.BAD);
        Check.due("told greatest", machine.told(Integer.MAX_VALUE), ColonMachine.BAD);
        Bench compiling = new Bench();
        compiling.then(": g 1");
        Check.due("compiling", compiling.machine.told(7), 1);
        Check.due("not a word yet", compiling.machine.told(3), 0);
        compiling.then(";");
        Check.due("compiled", compiling.machine.told(7), 0);
        Check.due("a word", compiling.machine.told(3), 1);
    }

    private static void out() {
        Bench bench = new Bench();
        bench.then("1 . 23 .");
        Check.due("out", bench.machine.out(), 5);
        bench.then("nonesuch");
        Check.due("an error leaves it", bench.machine.out(), 5);
    }

    private static void word() {
        Machine machine = new Bench().with(".\" abcdefghij\" 255 emit").machine;
        Check.due("word 0", machine.word(0), 0x6867666564636261L);
        Check.due("word 1", machine.word(1), 0xff6a69L);
        Check.due("word 2", machine.word(2), 0);
        Check.due("word -1", machine.word(-1), 0);
        Check.due("word 100", machine.word(100), 0);
        Check.due("word where 8 i runs over", machine.word(1 << 29), 0);
        Check.due("word least", machine.word(Integer.MIN_VALUE), 0);
        Check.due("word greatest", machine.word(Integer.MAX_VALUE), 0);
        Bench full = new Bench();
        full.then(": f 800 0 do i emit loop ; f");
        full.machine.run(5000);
        Check.due("full", full.machine.out(), 800);
        Check.due("the last word", full.machine.word(99), 0x1f1e1d1c1b1a1918L);
        Check.due("high bytes", full.machine.word(31), 0xfffefdfcfbfaf9f8L);
    }

    private static void clear() {
        Bench bench = new Bench();
        Check.due("clear of none", bench.machine.clear(), 0);
        bench.then(".\" abcdefghij\"");
        Check.due("clear", bench.machine.clear(), 10);
        Check.due("cleared", bench.machine.out(), 0);
        Check.due("no word", bench.machine.word(0), 0);
        bench.then("7 .");
        Check.due("0 behind the end", bench.machine.word(0), 0x2037);
    }
}
