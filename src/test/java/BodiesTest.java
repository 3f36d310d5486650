/** Promise 3: what is compiled, how bodies run, the return stack, loops. */
public final class BodiesTest {
    public static void main(String[] args) {
        compiles();
        compileFaults();
        conditions();
        doLoops();
        plusLoops();
        leaves();
        returnStack();
        returnStackFaults();
        openParts();
        manyItems();
        Check.end();
    }

    private static void compiles() {
        Check.after(": f 1 2 + ; f f", "3 3");
        Check.after(": f ; f", "");
        Check.after(": f 5 ; : g f f ; g", "5 5");
        Check.after(": f dup 1 > if dup 1- recurse * then ; 5 f", "120");
        Check.after(": f 5 ; immediate : g f ; g", "5");
        Check.after(": f 5 ; : g f ; g immediate : h g ;", "5 5");
        Check.after("5 constant c immediate : f c ; f", "5");
        Check.after("create x immediate : f x ; f", "1");
        Check.after("immediate", "");
        Check.after(": f immediate ; f", "");
        Check.after(": f ['] + ; 1 2 f execute", "3");
        Check.after(": f ['] f ;", "error -13");
        Check.after(": f 16 base ! ff ;", "error -13");
        Check.after("16 base ! : f ff ; f", "255");
        // a word made while compiling comes first; recurse is the one that is compiled
        Check.after(": mk create ; immediate : f mk x dup if 1- recurse then ; ' x ' f 2 f",
                "1 2 0");
        Check.after(": f begin 1- dup 0= if exit then again 9 ; 3 f", "0");
    }

    private static void compileFaults() {
        Check.after(";", "error -14");
        for (String word : new String[] {"[']", "recurse", "if", "else", "then", "begin", "until",
            "again", "while", "repeat", "do", "?do", "loop", "+loop", "leave", "does>"}) {
            Check.after(word, "error -14");
        }
        Check.after(": f : g", "error -29");
        Check.after(": f :", "error -29");
        Check.after(": f 5", "");
        Check.after(": f 5 ; f [", "error -13");
    }

    private static void conditions() {
        String signs = ": f dup 0< if drop -1 else 0= if 0 else 1 then then ; ";
        Check.after(signs + "-5 f 0 f 5 f", "-1 0 1");
        Check.after(": f if 1 then 2 ; 0 f 7 f", "2 1 2");
        Check.after(": f if ; ", "error -22");
        Check.after(": f if", "");
        Check.after(": f if then ; f", "error -4");
        Check.after(": f begin dup while 1- repeat ; 5 f", "0");
        Check.after(": f begin 1- dup 0= until ; 5 f", "0");
        Check.after(": f begin until ; f", "error -4");
        Check.after(": f begin dup while dup 3 = if drop 9 exit then 1- repeat ; 5 f 2 f",
                "9 0");
        Check.after(": f if begin 1- dup 0= until else 7 then ; 3 1 f 0 f", "0 7");
    }

    private static void doLoops() {
        Check.after(": f do i loop ; 3 0 f", "0 1 2");
        Check.after(": f do i loop ; 2 -1 f", "-1 0 1");
        Check.after(": f ?do i loop ; 3 3 f 5 3 f", "3 4");
        Check.after(": f 2 0 do 5 3 do j i loop loop ; f", "0 3 0 4 1 3 1 4");
        Check.after(": f 1 0 do 1 0 do 7 5 do j drop i loop loop loop ; f", "5 6");
        Check.after(": f do 1 loop ; 0 f", "error -4");
        Check.after(": f do loop ; f", "error -4");
        Check.after(": f ?do loop ; 1 f", "error -4");
        Check.after(": f ?do loop ; 0 f", "error -4");
        Check.after(": f ?do leave loop 7 ; 3 3 f 4 3 f", "7 7");
        Check.after(": f 5 >r 3 0 do 1 +loop 3 0 do loop 3 0 do leave loop r> ; f", "5");
        Check.after(": f 5 >r 3 0 do unloop r> exit loop ; f", "5");
        Check.after(": f do i leave loop ; 3 3 f", "3");
        // the index runs over from the greatest to the least int
        Check.after(": f do i loop ; -2147483647 2147483647 f", "2147483647 -2147483648");
    }

    private static void plusLoops() {
        Check.after(": f 10 0 do i 3 +loop ; f", "0 3 6 9");
        Check.after(": f 9 0 do i 3 +loop ; f", "0 3 6");
        Check.after(": f 0 10 do i -3 +loop ; f", "10 7 4 1");
        Check.after(": f 0 9 do i -3 +loop ; f", "9 6 3 0");
        Check.after(": f 0 0 do i -1 +loop ; f", "0");
        Check.after(": f 5 0 do i 2147483647 +loop ; f", "0");
        Check.after(": f 5 0 do i dup 2 = if 3 else 1 then +loop ; f", "0 1 2");
        Check.after(": f 3 0 do +loop ; f", "error -4");
        Check.after(": f 2147483647 2147483640 do i 4 +loop ; f", "2147483640 2147483644");
        Check.due("of 0 it does not end", Bench.after(": f 3 0 do 0 +loop ; f"), "running");
        // x is 5, y runs over to below 0, but x and n are of one sign: it goes back; then it ends
        Check.after(": f 0 5 do i 2147483647 +loop ; f", "5 -2147483644");
        // x is the least int, y runs over to 2147483647, and x and n are of one sign
        Check.after(": f 0 -2147483648 do i i 0< if -1 else -2147483647 then +loop 7 ; f",
                "-2147483648 2147483647 0 7");
    }

    private static void leaves() {
        Check.after(": f 5 0 do i i 2 = if leave then loop 9 ; f", "0 1 2 9");
        Check.after(": f 5 0 do leave i loop ; f", "");
        Check.after(": f 2 0 do 9 5 do i leave loop i loop ; f", "5 0 5 1");
        Check.after(": f 2 0 do 9 5 do loop leave loop 7 ; f", "7");
        Check.after(": f 3 0 do begin i leave again loop 8 ; f", "0 8");
        Check.after(": f 5 0 ?do i 1 = if leave else i 3 = if leave then then i loop ; f", "0");
        Check.after(": f 5 0 do i leave 2 +loop 4 ; f", "0 4");
        Check.after(": f leave ;", "error -22");
        Check.after(": f do loop leave ;", "error -22");
    }

    private static void returnStack() {
        Check.after(": f 5 >r r@ r@ r> ; f", "5 5 5");
        Check.after(": f 1 >r 2 >r r> r> ; f", "2 1");
        Check.after(": f 5 >r 3 0 do i loop r> ; f", "0 1 2 5");
        Check.after(": f 6 >r r> ; : g 5 >r f r> ; g", "6 5");
        Check.after(": f 3 0 do i 1 = if unloop exit then i loop ; f 7", "0 7");
        // i and j are what the return stack has, with two or four cells of its own
        Check.after(": f 1 >r 2 >r i r> r> ; f", "2 2 1");
        Check.after(": f 1 >r 2 >r 3 >r 4 >r j r> r> r> r> ; f", "2 4 3 2 1");
        Check.after(": f 1 >r 2 >r unloop ; f 5", "5");
    }

    private static void returnStackFaults() {
        for (String word : new String[] {"1 >r", "r>", "r@", "i", "j", "unloop", "exit"}) {
            Check.after(word, "error -14");
            String last = word.substring(word.lastIndexOf(' ') + 1);
            Check.after("1 ' " + last + " catch", "1 -14");
            Check.after("1 ' " + last + " execute", "error -14");
            Check.after(": f 1 >r 2 >r ['] " + last + " catch r> r> ; f", "-14 2 1");
        }
        for (String word : new String[] {"r>", "r@", "i", "j", "unloop"}) {
            Check.after(": f " + word + " ; f", "error -6");
            Check.after(": f " + word + " ; : g 1 >r 2 >r 3 >r 4 >r f ; g", "error -6");
        }
        for (String word : new String[] {"i", "unloop", "j"}) {
            Check.after(": f 1 >r " + word + " ; f", "error -6");
        }
        Check.after(": f 1 >r 2 >r 3 >r j ; f", "error -6");
        Check.after(": f 1 >r ; f", "error -6");
        Check.after(": f 1 >r exit ; f", "error -6");
        Check.after(": f 3 0 do exit loop ; f", "error -6");
        Check.after(": f 3 0 do r> loop ; f", "error -6");
        Check.after(": f 3 0 do r> drop 1 +loop ; f", "error -6");
        Check.after(": f 3 0 do r> leave loop ; f", "error -6");
        Check.after(": f i ; : g 3 0 do f loop ; g", "error -6");
        // what throws does not go on
        Check.after(": f 3 0 do unloop loop 5 throw ; f", "error -6");
        Check.after(": f 3 0 do unloop 1 +loop 5 throw ; f", "error -6");
        Check.after(": f 3 0 do unloop leave loop 5 throw ; f", "error -6");
        Check.after(": f r> 5 throw ; : g 1 >r f ; g", "error -6");
        // a loop takes what is topmost: 64 0 2 1 becomes 64 0, and they are left over
        Check.after(": f 64 0 do 1 >r loop ; f", "error -6");
        Check.after(": f begin 1 >r again ; f", "error -3");
        Check.after(": f " + Bench.times(64, "dup >r ") + " ; 1 f", "error -6");
        Check.after(": f " + Bench.times(63, "dup >r ") + " do ; ", "error -22");
        Check.after(": f " + Bench.times(63, "dup >r ") + "0 1 do loop ; 1 f", "error -3");
        Check.after(": f " + Bench.times(62, "dup >r ") + "1 0 do loop ; 1 f", "error -6");
        // of the same limit and index none is put there
        Check.after(": f " + Bench.times(64, "dup >r ") + "0 0 ?do loop dup throw ; 9 f",
                "error 9");
        Check.after(": f " + Bench.times(64, "dup >r ") + "0 1 ?do loop dup throw ; 9 f",
                "error -3");
    }

    private static void openParts() {
        for (String parts : new String[] {"then", "else", "until", "again", "while", "repeat",
            "loop", "+loop", "if else else then", "if begin then until", "begin if until then",
            "begin if again then", "begin if repeat then", "begin repeat", "begin while until",
            "begin while again", "begin while while repeat", "begin while then", "do then",
            "do if loop then", "begin loop", "begin do while loop", "if while", "if loop",
            "do begin loop until", "do else", "begin else", "if until", "?do if +loop"}) {
            Check.after(": f " + parts + " ;", "error -22");
        }
        for (String parts : new String[] {"if", "if else", "begin", "begin while", "do", "?do"}) {
            Check.after(": f " + parts + " ;", "error -22");
            Check.after(": f " + parts, "");
        }
        Check.after(": f begin begin 1- dup 0= until dup 0= until ; 3 f", "0");
        Check.after(": f begin dup while begin 1- dup 2 mod 0= until repeat ; 6 f", "0");
        Bench deep = new Bench().with(": f 1");
        for (int i = 0; i < 9; i++) {
            deep.then(Bench.times(60, "begin "));
        }
        Check.due("540 are open, one is closed", deep.then("until"), "");
        Check.due("539 are open", deep.then(";"), "error -22");
        Bench nested = new Bench().with(": f 1").with(Bench.times(45, "begin "))
                .with(Bench.times(45, "dup until "));
        Check.due("all are closed", nested.then("; f"), "1");
    }

    private static void manyItems() {
        Bench bench = new Bench().with(": f " + Bench.times(149, "1 ")).with("");
        Check.due("149 and the END", bench.then("; 5"), "5");
        Bench full = new Bench().with(": f " + Bench.times(150, "1 "));
        Check.due("150 and the END", full.then(";"), "error -8");
        for (String word : new String[] {"1", "dup", "['] dup", "recurse", "if", "do", "?do",
            "does>", ".\" a\"", "else", "until", "again", "while", "repeat", "loop", "+loop",
            "leave", ";"}) {
            Bench more = new Bench().with(": f " + Bench.times(150, "1 "));
            Check.due("a 151st: " + word, more.then(word), "error -8");
        }
        for (String word : new String[] {"begin", "( a )", "\\ a"}) {
            Bench more = new Bench().with(": f " + Bench.times(150, "1 "));
            Check.due("no item: " + word, more.then(word), "");
        }
        Bench then = new Bench().with(": f if " + Bench.times(149, "1 "));
        Check.due("then is no item", then.then("then"), "");
        Check.due("then of none", new Bench().with(": f " + Bench.times(150, "1 ")).then("then"),
                "error -22");
        Bench own = new Bench().with(": g ; : f " + Bench.times(150, "1 "));
        Check.due("a call", own.then("g"), "error -8");
    }
}
