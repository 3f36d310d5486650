/** Promise 3: tokens, execute, catch and throw. */
public final class ThrowingTest {
    public static void main(String[] args) {
        tokens();
        executes();
        throwsOut();
        catches();
        restoresStacks();
        catchesThatEnd();
        tooManyCalls();
        Check.end();
    }

    private static void tokens() {
        String names = "dup drop swap over rot nip tuck ?dup pick depth 2dup 2drop + - * / mod /mod"
                + " */ negate abs min max 1+ 1- 2* 2/ and or xor invert lshift rshift = <> < > u<"
                + " 0= 0< >r r> r@ @ ! +! , allot here base . u. emit cr space execute catch throw"
                + " allocate free resize i j unloop exit create variable constant marker '"
                + " immediate";
        int token = 1000;
        for (String name : names.split(" ")) {
            Check.after("' " + name, Integer.toString(token));
            Check.after(": f ['] " + name + " ; f", Integer.toString(token));
            token++;
        }
        Check.due("71 primitives", token, 1071);
        for (String name : (": ; ( \\ .\" ['] recurse if else then begin until again while repeat"
                + " do ?do loop +loop leave does>").split(" ")) {
            Check.after("' " + name, "error -13");
            Check.after(": f ['] " + name + " ;", "error -13");
        }
        Check.after("' 5", "error -13");
        Check.after("' nonesuch", "error -13");
        Check.after("' toolongname", "error -13");
        Check.after("'", "error -16");
        Check.after(": f [']", "error -16");
        Check.after("create a : b ; 5 constant c marker d ' d ' c ' b ' a", "3 2 1 0");
        Check.after("create a create a ' a", "1");
        Check.after(": dup ; ' dup", "0");
    }

    private static void executes() {
        Check.after("2 3 ' + execute", "5");
        Check.after(": f 7 ; ' f execute", "7");
        Check.after("5 constant c ' c execute create x ' x execute", "5 1");
        Check.after("2 3 1012 1055 1055 1055 execute", "5");
        Check.after("5 execute", "error -9");
        Check.after("-1 execute", "error -9");
        Check.after("999 execute", "error -9");
        Check.after("1071 execute", "error -9");
        Check.after("2000 execute", "error -9");
        Check.after("2147483647 execute", "error -9");
        Check.after("1055 execute", "error -4");
        Check.after("1056 execute", "error -4");
        Check.after(Bench.times(64, "1055 ") + "execute", "error -4");
        Check.after("create a 0 execute 1 execute", "error -9");
        // the token is gone when the word is executed
        Check.due("room for a constant", new Bench().with("5 constant c").push(63, 1)
                .with("' c execute").machine.told(0), 64);
        Check.after(": f drop 1012 execute ; 8 9 ' f catch", "8 0 -4");
        Check.after(": f 5 ['] >r execute r> ; f", "5");
        Check.after(": f ['] exit execute 5 ; f", "");
        Check.after(": f 3 0 do ['] i execute loop ; f", "0 1 2");
    }

    private static void throwsOut() {
        Check.after("5 throw", "error 5");
        Check.after("-2147483648 throw", "error -2147483648");
        Check.after("1 0 throw 2", "1 2");
        Check.after(": f 7 throw ; f", "error 7");
        Check.after("throw", "error -4");
    }

    private static void catches() {
        Check.after(": f 42 throw 5 ; ' f catch 9", "42 9");
        Check.after(": f 42 ; ' f catch", "42 0");
        Check.after(": f 0 throw 5 ; ' f catch", "5 0");
        Check.after("1 2 ' + catch", "3 0");
        Check.after("1 ' + catch", "1 -4");
        Check.after("' drop catch", "-4");
        Check.after(": f ['] nope", "error -13");
        Check.after("catch", "error -4");
        Check.after("5 catch", "error -9");
        Check.after("1071 catch", "error -9");
        Check.after(": f 1 throw ; : g ['] f catch 5 throw ; ' g catch", "5");
        Check.after(": f 1 throw ; : g ['] f catch ; ' g catch", "1 0");
        Check.after(": f 1 throw ; : g ['] f catch throw ; ' g catch 6", "1 6");
        // a catch of catch has no token
        Check.after("' catch catch", "-4");
        Check.after("9 ' catch catch", "9 -9");
        Check.after("1 2 1012 1056 catch", "3 0 0");
        Check.after("5 1057 catch", "0 5");
        // no words that were read come back
        Check.after("' ' catch nonesuch 5", "-13 5");
        Check.after("' create catch toolongname 5", "-16 5");
        Check.after(": f 1 throw ; : g ['] f catch ; g g", "1 1");
    }

    private static void restoresStacks() {
        Check.after(": f 1 2 3 9 throw ; 7 8 ' f catch", "7 8 9");
        Check.after(": f drop drop 9 throw ; 7 8 ' f catch", "0 0 9");
        Check.after(": f drop drop 1 9 throw ; 7 8 ' f catch", "1 0 9");
        Check.after(": f drop 1 2 3 9 throw ; 7 8 ' f catch", "7 1 9");
        // the thrown cell is gone before the missing ones are made
        Check.after(": f 2drop drop 9 throw ; 6 7 8 ' f catch", "0 0 0 9");
        Check.after(": f 5 >r 6 >r 9 throw ; : g 1 >r ['] f catch r> ; g", "9 1");
        Check.after(": f 3 0 do 9 throw loop ; : g 2 0 do ['] f catch i loop ; g", "9 0 9 1");
        Bench bench = new Bench().with(": f 5 >r 9 throw ; ' f catch");
        Check.due("returns and calls", "" + bench.machine.told(1) + bench.machine.told(2), "00");
        Check.after(": f recurse ; 7 ' f catch", "7 -5");
    }

    private static void catchesThatEnd() {
        // 63 cells when it is made, 64 when it ends: it has the -3 itself
        Bench bench = new Bench().with(": f 5 ;").push(63, 1).feed("' f catch");
        Check.due("it goes on", bench.machine.run(9), ColonMachine.DONE);
        Check.due("-3 is on top", bench.machine.pick(0), -3);
        Check.due("of 64", bench.machine.told(0), 64);
        Check.due("the cell below is the old one", bench.machine.pick(1), 1);
        Bench inner = new Bench().with(": f 5 ; : g ['] f catch drop drop 9 throw ;").push(63, 1);
        inner.then("' g catch");
        Check.due("an outer catch goes on", inner.machine.told(0) + " " + inner.machine.pick(0)
                + " " + inner.machine.pick(1) + " " + inner.machine.pick(2), "64 9 0 1");
        Bench dup = new Bench().push(63, 1);
        dup.then("' dup catch");
        Check.due("a primitive", dup.machine.told(0) + " " + dup.machine.pick(0), "64 -3");
        Machine open = new Bench().feed("5 ' dup catch").machine;
        open.run(3);
        Check.due("a catch is a call", open.told(2), 1);
        open.run(1);
        Check.due("it went", open.told(2), 0);
    }

    private static void tooManyCalls() {
        Bench bench = new Bench().with(": f 1+ recurse ;").feed("0 f");
        Check.due("-5", bench.outcome(bench.machine.run(5000)), "error -5");
        // 40 calls of f, the last of which can not make another
        Bench counted = new Bench().with("variable n : f 1 n +! recurse ;");
        Check.due("41 calls", counted.then("f"), "error -5");
        Check.due("40 were made", counted.machine.peek(1), 40);
        Bench caught = new Bench().with("variable n : f 1 n +! recurse ;");
        Check.due("a catch counts", caught.then("' f catch n @"), "-5 39");
        // the token of f is 1
        Bench catches = new Bench().with("variable n : f 1 n +! 1 catch throw ;");
        Check.due("catches of catches", catches.then("f n @"), "error -5");
        // f, catch, f, catch ..: the catch of the 20th f is the 40th call, the next f is refused
        Check.due("20 of each", catches.machine.peek(1), 20);
        Check.after(Bench.times(41, "1056 ") + "catch", catchRow());
    }

    /** 40 catches are made of 41 tokens and the catch, and the next one is thrown to the last. */
    private static String catchRow() {
        // 41 cells: each catch takes one; the 41st catch is refused with -5 before it takes one
        return "1056 -5" + " 0".repeat(39);
    }
}
