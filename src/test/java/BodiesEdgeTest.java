/** Terms: compiling, the primitives for bodies and those that define, the specials, the items. */
public final class BodiesEdgeTest {
    private static final String[] OPENERS = {"if", "if else", "begin", "begin while", "do", "?do"};
    // by opener, as above: the specials that may follow it, one for each
    private static final String[] CLOSERS = {"else then", "then", "until again while", "repeat",
        "loop +loop", "loop +loop"};

    public static void main(String[] args) {
        compiling();
        ownReturns();
        ownReturnsAtTheEnd();
        forBodiesAlone();
        needOfReturns();
        onAFullStack();
        defining();
        ticks();
        immediate();
        colon();
        semicolon();
        onlyWhileCompiling();
        recurse();
        partsThatGoTogether();
        partsThatStayOpen();
        branches();
        beginParts();
        doLoops();
        sameLimit();
        loopsRunOver();
        plusLoops();
        plusLoopsRunOver();
        leaves();
        does();
        Check.end();
    }

    private static void compiling() {
        Check.of("COMPILING (between : and ;): immediate words and specials are executed; of the"
                + " others an item is added");
        Check.due("nothing is done", new Bench().with("1 : f dup 5 . create").told(0, 3, 7),
                "1 0 1");
        Check.after(": f 5 ; immediate : g f ; g", "5");
        Check.after(": f 5 ; : g f ; g", "5");
        Check.after("5 constant c immediate : f c ;", "5");
        Check.after("create x immediate : f x ;", "1");
        Check.after("variable x immediate : f x ;", "1");
        Check.due("an immediate word is no item", new Bench().with(": f ; immediate : g "
                + Bench.times(150, "1 ")).then("f"), "");
        Check.due("another is", new Bench().with(": f ; : g " + Bench.times(150, "1 "))
                .then("f"), "error -8");
        Check.due("what it does is run in steps", new Bench().with(": e begin again ; immediate"
                + " : f e").told(2, 7), "1 1");
        Check.after(": f 2147483648 ; f", "-2147483648");
        Check.after("2 base ! : f 101 ; 1010 base ! 7 f", "7 5");
    }

    private static void ownReturns() {
        Check.of("what the return stack has below it does not count for it");
        for (String word : new String[] {"r>", "r@", "i", "j", "unloop"}) {
            Check.after(": f " + word + " ; : g 1 >r 2 >r 3 >r 4 >r f ; g", "error -6");
            Check.after(": d create does> " + word + " ; d x : g 1 >r 2 >r 3 >r 4 >r x ; g",
                    "error -6");
        }
        for (String item : new String[] {"loop", "1 +loop", "leave loop"}) {
            Check.after(": f 1 0 do unloop " + item + " ; : g 1 >r 2 >r f ; g", "error -6");
        }
        Check.after(": f 3 >r r@ r> ; : g 1 >r f r> ; g", "3 3 1");
        Check.after(": f 2 0 do i loop ; : g 7 5 do i f loop ; g", "5 0 1 6 0 1");
        Check.after(": f 1 >r ['] r> execute ; f", "1");
    }

    private static void ownReturnsAtTheEnd() {
        Check.of("when it ends, all of its own must be gone (-6)");
        Check.after(": f 1 >r ; f", "error -6");
        Check.after(": f 1 >r exit ; f", "error -6");
        Check.after(": f 1 >r r> ; f", "1");
        Check.after(": f 1 >r r> exit ; f", "1");
        Check.after(": f 1 >r ; : g 2 >r f r> ; g", "error -6");
        Check.after(": f ; : g 2 >r f r> ; g", "2");
        Check.after(": f exit ; : g 2 >r f r> ; g", "2");
        Check.after(": f 2 0 do exit loop ; f", "error -6");
        Check.after(": f 2 0 do unloop exit loop ; f 5", "5");
        Check.after(": f 2 0 do r> drop exit loop ; f", "error -6");
        Check.after(": d create 1 >r does> ; d x", "error -6");
        Check.after(": d create does> >r ; d x x", "error -6");
        Check.after(": d create does> >r r> ; d x x", "1");
    }

    private static void forBodiesAlone() {
        Check.of("40 to 42 and 61 to 64 are for bodies alone: -14 without calls, and when the"
                + " topmost one is a catch");
        for (int token : new int[] {1040, 1041, 1042, 1061, 1062, 1063, 1064}) {
            String four = ": f 1 >r 2 >r 3 >r 4 >r 5 " + token;
            Check.after("5 " + token + " execute", "error -14");
            Check.after("5 " + token + " catch", "5 -14");
            Check.after(four + " catch r> r> r> r> ; f", "5 -14 4 3 2 1");
            Bench bench = new Bench().with(four + " execute begin again ; f");
            Check.due("in a body " + token, bench.machine.code(), token == 1064 ? -6 : 0);
        }
        for (int token : new int[] {1039, 1043, 1060, 1065, 1070}) {
            Bench bench = new Bench().with("400 0 " + token + " execute x");
            Check.due("not " + token, "" + (bench.machine.code() != -14), "true");
        }
        Check.after(">r", "error -14");
        Check.after("exit", "error -14");
    }

    private static void needOfReturns() {
        Check.of("i, unloop, and the items of loops need two cells of the return stack, j four");
        Check.after(": f 1 >r r> ; f", "1");
        Check.after(": f 1 >r r@ r> ; f", "1 1");
        Check.after(": f r> ; f", "error -6");
        Check.after(": f r@ ; f", "error -6");
        // what is behind would throw 5, if they did not
        for (String word : new String[] {"i", "unloop"}) {
            Check.after(": f " + word + " 5 throw ; f", "error -6");
            Check.after(": f 1 >r " + word + " 5 throw ; f", "error -6");
            Check.after(": f 1 >r 2 >r " + word + " 5 throw ; f", "error 5");
        }
        Check.after(": f 1 >r 2 >r i unloop ; f", "2");
        Check.after(": f 1 >r 2 >r 3 >r j 5 throw ; f", "error -6");
        Check.after(": f 1 >r 2 >r 3 >r 4 >r j 5 throw ; f", "error 5");
        Check.after(": f 1 >r 2 >r 3 >r 4 >r j unloop unloop ; f", "2");
        for (String item : new String[] {"loop", "1 +loop", "leave loop"}) {
            Check.after(": f 9 0 do unloop " + item + " 5 throw ; f", "error -6");
            Check.after(": f 9 0 do r> drop " + item + " 5 throw ; f", "error -6");
            // only the first time round the cells are gone, so that it is the item that throws
            Bench once = new Bench().with("variable v : f 3 0 do v @ 0= if unloop then 1 v +! "
                    + item + " 5 throw ; f");
            Check.due(item + " without cells", once.machine.code() + " " + once.machine.peek(1),
                    "-6 1");
            Bench half = new Bench().with("variable v : f 3 0 do v @ 0= if r> drop then 1 v +! "
                    + item + " 5 throw ; f");
            Check.due(item + " with one cell", half.machine.code() + " " + half.machine.peek(1),
                    "-6 1");
        }
        Check.after(": f 9 0 do unloop leave 5 throw loop ; f", "error -6");
        Check.after(": f 1 0 do r> r> swap >r >r loop ; f", "running");
        Check.after(": f 7 >r 3 0 do loop 3 0 do 1 +loop 3 0 do leave loop r> ; f", "7");
    }

    private static void onAFullStack() {
        Check.of("-3 a stack would have too many cells");
        for (String word : new String[] {"r>", "r@", "i", "j"}) {
            Bench on = new Bench().with(": f " + Bench.times(4, ">r ") + Bench.times(3, "dup ")
                    + word + " begin again ;").push(64, 1);
            Check.due(word + " to 64", on.with("f").told(0), "64");
            Bench beyond = new Bench().with(": f " + Bench.times(4, ">r ")
                    + Bench.times(4, "dup ") + word + " begin again ;").push(64, 1);
            Check.due(word + " beyond 64", beyond.then("f"), "error -3");
        }
        Bench unloop = new Bench().with(": f >r >r dup dup unloop begin again ;").push(64, 1);
        Check.due("unloop of 64", unloop.with("f").told(0, 1), "64 0");
        Bench exit = new Bench().with(": f exit ;").push(64, 1);
        Check.due("exit of 64", exit.with("f").told(0, 2), "64 0");
        Bench toReturns = new Bench().with(": f >r begin again ;").push(64, 1);
        Check.due(">r of 64", toReturns.with("f").told(0, 1), "63 1");
    }

    private static void defining() {
        Check.of("create, variable (a cell with 0), constant, marker");
        Check.due("create", new Bench().with("create x").told(3, 4), "1 1");
        Check.due("variable", new Bench().with("variable x").told(3, 4), "1 2");
        Check.due("constant", new Bench().with("5 constant x").told(0, 3, 4), "0 1 1");
        Check.due("marker", new Bench().with("marker x").told(3, 4), "1 1");
        Check.after("7 , -1 allot variable x x @", "0");
        Check.after("7 , -1 allot create x 1 allot x @", "0");
        Check.after(": f create 5 , ; f x f y x y x @ y @", "1 2 5 5");
        Check.after("7 constant", "error -16");
        Check.after("7 constant toolongname", "error -16");
        Check.due("the name is behind the text's end", new Bench().with(": f create ;").then("f"),
                "error -16");
        Check.after("create create create", "1");
        Check.after("create 5 5", "1");
    }

    private static void ticks() {
        Check.of("' (reads a word: its token, -13 for specials and numbers)");
        Check.after("create a ' a ' dup ' immediate", "0 1000 1070");
        for (String word : new String[] {":", ";", "(", "\\", ".\"", "[']", "if", "does>", "0",
            "-1", "12345678901"}) {
            Check.after("' " + word, "error -13");
            Check.after(": f ['] " + word, "error -13");
        }
        Check.after("' nonesuch", "error -13");
        Check.after("'", "error -16");
        Check.after("'  \n", "error -16");
        Check.after(": if 1 ; ' if", "0");
        Check.after(": 5 1 ; ' 5", "0");
        Check.after("' DUP", "1000");
        Check.after(": f ' ; f dup", "1000");
        Check.after(": f ['] dup ; f", "1000");
        Check.after("1 base ! ' 5", "error -13");
        Check.of("['] reads a word: a literal with its token");
        Check.after(": g ; : f ['] g ['] f ;", "error -13");
        Check.after(": g ; : f ['] g ; f", "0");
    }

    private static void immediate() {
        Check.of("immediate (the latest word of its own, if there is one)");
        Check.after("immediate 5", "5");
        Check.after(": f 5 ; immediate : g f", "5");
        Check.after(": f 5 ; : g 6 ; immediate : h f", "");
        Check.after(": f 5 ; immediate immediate : g f", "5");
        Check.after("marker m m immediate : g 5 ; : h g", "");
        Check.after("marker m : f ; immediate m : f 5 ; : h f", "");
        // what is compiled is not in the dictionary yet
        Check.after(": e 5 ; : i immediate ; immediate : f i e", "");
        Check.after(": i immediate ; immediate : e 5 ; : f i ; : g e", "5");
        Check.after("5 constant c immediate : f c", "5");
    }

    private static void colon() {
        Check.of(": (reads a name; -29)");
        Check.after(": f : g", "error -29");
        Check.after(": f : ", "error -29");
        Check.after(": f ; : g ; ", "");
        Check.after(": : 5 ; :", "5");
        Check.after(":", "error -16");
        Bench bench = new Bench().with(": f");
        Check.due("compiling", bench.told(3, 7), "0 1");
        Check.due("in a later run", bench.then("5 ; f"), "5");
    }

    private static void semicolon() {
        Check.of("; (-14, if nothing is compiled; .. an item END; the word is in the dictionary"
                + " then; -22, if something is open)");
        Check.after(";", "error -14");
        Check.after(": f ; ;", "error -14");
        Check.after(": f ; f", "");
        Check.after(": f f ;", "error -13");
        Bench empty = new Bench().with(": f ;").feed("f");
        Check.due("the call", empty.machine.run(1), ColonMachine.RUNNING);
        Check.due("END", empty.machine.run(1), ColonMachine.DONE);
        for (String open : OPENERS) {
            Bench bench = new Bench();
            Check.due(open, bench.then(": f " + open + " ;"), "error -22");
            Check.due("dropped", bench.told(3, 7), "0 0");
        }
        Check.after(": f if then ;", "");
    }

    private static void onlyWhileCompiling() {
        Check.of("Only while compiling (-14)");
        for (String word : new String[] {"['] dup", "recurse", "if", "else", "then", "begin",
            "until", "again", "while", "repeat", "do", "?do", "loop", "+loop", "leave",
            "does>"}) {
            Check.after(word, "error -14");
            Check.after("1 " + word, "error -14");
            Check.after(": f ; " + word, "error -14");
        }
    }

    private static void recurse() {
        Check.of("recurse: a call of what is compiled (of that word, whatever its number will be)");
        Check.after(": f dup if 1- recurse 1+ then ; 5 f", "5");
        Check.after(": f 1 ; : f dup if 1- recurse then ; 3 f", "0");
        // words that are made while it is compiled come before it
        Check.after(": mk create ; immediate : f mk x mk y dup if 1- recurse then ; ' f 3 f",
                "3 0");
        Check.after(": f dup if 1- recurse then ; : g 9 ; 3 f", "0");
        Check.after(": f recurse ; f", "error -5");
        Check.after(": d dup if 1- recurse exit then create does> drop 7 ; 3 d x drop x", "7");
        // behind does> it calls the word from its beginning
        Check.after(": d dup 0= if exit then create does> drop 0 recurse ; 5 d x drop x", "0");
    }

    private static void partsThatGoTogether() {
        Check.of("Of what is open the topmost one must be the one that is told (but for leave);"
                + " -22");
        String all = "else then until again while repeat loop +loop";
        for (int k = 0; k < OPENERS.length; k++) {
            for (String word : all.split(" ")) {
                boolean fits = (" " + CLOSERS[k] + " ").contains(" " + word + " ");
                Check.after(": f " + OPENERS[k] + " " + word, fits ? "" : "error -22");
                for (String between : OPENERS) {
                    boolean closes = closes(between, word);
                    Check.after(": f " + OPENERS[k] + " " + between + " " + word,
                            closes ? "" : "error -22");
                }
            }
        }
        for (String word : all.split(" ")) {
            Check.after(": f " + word, "error -22");
            Check.after(": f if then begin again do loop " + word, "error -22");
        }
    }

    private static boolean closes(String opener, String word) {
        for (int k = 0; k < OPENERS.length; k++) {
            if (OPENERS[k].equals(opener)) {
                return (" " + CLOSERS[k] + " ").contains(" " + word + " ");
            }
        }
        return false;
    }

    private static void partsThatStayOpen() {
        Check.of("what closes it: then, until, again, repeat, loop, +loop");
        for (String parts : new String[] {"if then", "if else then", "begin until", "begin again",
            "begin while repeat", "do loop", "do +loop", "?do loop", "?do +loop",
            "do leave loop", "begin if else then while repeat", "do if leave then loop"}) {
            Check.after(": f " + parts + " ; 5", "5");
            Check.after(": f " + parts + " then", "error -22");
            Check.after(": f " + parts + " until", "error -22");
            Check.after(": f " + parts + " repeat", "error -22");
            Check.after(": f " + parts + " loop", "error -22");
        }
        for (String parts : new String[] {"if else", "begin while", "begin while if then",
            "do if then", "if else begin until"}) {
            Check.after(": f " + parts + " ;", "error -22");
        }
    }

    private static void branches() {
        Check.of("ZERO takes a cell, and does so if that is 0");
        Check.after(": f if 1 then 2 ; 0 f", "2");
        Check.after(": f if 1 then 2 ; 1 f -1 f -2147483648 f", "1 2 1 2 1 2");
        Check.after(": f if 1 else 2 then 3 ; 0 f 1 f", "2 3 1 3");
        Check.after(": f if 1 then ; f", "error -4");
        Check.after(": f if then ; 7 0 f", "7");
        Check.after(": f if else then ; 7 0 f 1 f", "7");
        Check.after(": f if if 1 else 2 then else 3 then ; 1 1 f 0 1 f 0 f", "1 2 3");
    }

    private static void beginParts() {
        Check.of("until: ZERO to the begin; again: BRANCH to it; while; repeat");
        Check.after(": f begin 1+ dup 5 = until ; 0 f", "5");
        Check.after(": f begin 1 until ; f", "");
        Check.after(": f begin until ; 7 1 0 0 f", "7");
        Check.after(": f begin until ; 0 f", "error -4");
        Check.after(": f begin while repeat ; 0 f", "");
        Check.after(": f begin while repeat ; 7 0 1 1 f", "7");
        Check.after(": f begin while repeat ; 1 f", "error -4");
        Check.after(": f begin dup while 1- repeat 7 ; 3 f", "0 7");
        Check.after(": f begin dup 3 = if exit then 1+ again 9 ; 0 f", "3");
        Check.after(": f begin again ; f", "running");
    }

    private static void doLoops() {
        Check.of("DO takes limit and index; LOOP: the index is one more; if it is the limit now,"
                + " both go, else it goes back");
        Check.after(": f do i loop ; 1 0 f", "0");
        Check.after(": f do i loop ; 2 0 f", "0 1");
        Check.after(": f do i loop ; 0 -2 f", "-2 -1");
        Check.after(": f do i leave loop ; 0 0 f", "0");
        Check.after(": f do i dup 3 = if leave then loop ; 0 1 f", "1 2 3");
        Check.after(": f do loop ; 1 f", "error -4");
        Check.after(": f do loop ; f", "error -4");
        Check.after(": f do i j loop ; 1 0 f", "error -6");
        Check.after(": f do 8 6 do j i loop loop ; 2 0 f", "0 6 0 7 1 6 1 7");
        // three loops: j is of the second
        Check.after(": f 2 1 do 4 3 do 6 5 do i j loop loop loop ; f", "5 3");
        Bench bench = new Bench().with(": f do begin again loop ; 7 5 f");
        Check.due("two cells", bench.told(0, 1), "0 2");
        Bench done = new Bench().with(": f do loop begin again ; 7 5 f");
        Check.due("both went", done.told(0, 1), "0 0");
    }

    private static void sameLimit() {
        Check.of("QDO likewise, but if they are the same it goes on elsewhere");
        Check.after(": f ?do i loop 7 ; 3 3 f", "7");
        Check.after(": f ?do i loop 7 ; 4 3 f", "3 7");
        Check.after(": f ?do i leave loop 7 ; 2 3 f", "3 7");
        Check.after(": f ?do i loop 7 ; 0 0 f -2147483648 -2147483648 f", "7 7");
        Check.after(": f ?do i loop ; 3 f", "error -4");
        Check.after(": f ?do i loop ; 0 f", "error -4");
        Check.after(": f ?do i loop ; f", "error -4");
        Check.after(": f ?do i 1 +loop 7 ; 3 3 f 4 3 f", "7 3 7");
        Check.after(": f ?do 3 3 ?do 1 loop i loop ; 2 0 f", "0 1");
        Check.due("without room, when they differ", new Bench().with(": f " + Bench.times(63,
                "1 >r ") + "1 0 ?do loop ; f").machine.code(), -3);
        // the 63 cells are left over then, but that is behind the loop
        Check.due("without room, when they are the same", new Bench().with(": f "
                + Bench.times(63, "1 >r ") + "0 0 ?do loop ; f").machine.code(), -6);
        Bench same = new Bench().with(": f ?do loop begin again ; 3 3 f");
        Check.due("nothing on the return stack", same.told(0, 1), "0 0");
    }

    private static void loopsRunOver() {
        Check.of("LOOP where the index runs over");
        Check.after(": f do i loop ; -2147483648 2147483647 f", "2147483647");
        Check.after(": f do i loop ; -2147483647 2147483646 f",
                "2147483646 2147483647 -2147483648");
        Check.after(": f do i loop ; 2147483647 2147483645 f", "2147483645 2147483646");
        Check.due("from the limit on it goes all the way round",
                Bench.after(": f do loop ; 5 5 f"), "running");
    }

    private static void plusLoops() {
        Check.of("PLUS takes n: with x = index - limit and y = x + n (running over): the index is n"
                + " more; if both x and y, and x and n, have different signs, both go, else it"
                + " goes back");
        Check.after(": f 10 0 do i 5 +loop ; f", "0 5");
        Check.after(": f 10 0 do i 4 +loop ; f", "0 4 8");
        Check.after(": f 10 0 do i 9 +loop ; f", "0 9");
        Check.after(": f 10 0 do i 10 +loop ; f", "0");
        Check.after(": f 10 0 do i 11 +loop ; f", "0");
        // downward the limit itself is still within, because its x is not below 0
        Check.after(": f 0 4 do i -1 +loop ; f", "4 3 2 1 0");
        Check.after(": f 0 4 do i -2 +loop ; f", "4 2 0");
        Check.after(": f 0 4 do i -3 +loop ; f", "4 1");
        Check.after(": f 0 4 do i -5 +loop ; f", "4");
        Check.after(": f 0 4 do i -4 +loop ; f", "4 0");
        Check.after(": f 0 0 do i -1 +loop ; f", "0");
        Check.after(": f 0 0 do i dup 2 = if leave then 1 +loop ; f", "0 1 2");
        Check.after(": f 0 -1 do i dup -3 = if leave then -1 +loop ; f", "-1 -2 -3");
        Check.after(": f 3 0 do 0 +loop ; f", "running");
        Check.after(": f 3 0 do +loop ; f", "error -4");
        Check.after(": f 3 0 do 7 1 +loop ; f", "7 7 7");
        Check.due("both went", new Bench().with(": f 3 0 do 5 +loop begin again ; f").told(1), "0");
    }

    private static void plusLoopsRunOver() {
        String most = "2147483647";
        String least = "-2147483648";
        // x = -1, n = most: y is not below 0, and x and n differ: both go
        Check.after(": f 0 -1 do i " + most + " +loop ; f", "-1");
        // x = 1, n = most: y runs over below 0, but x and n are alike
        Check.after(": f 0 1 do i dup 1 = if " + most + " else 1 leave then +loop ; f",
                "1 " + least + " 1");
        // x = least, n = -1: y runs over, x and n are alike: it goes back
        Check.after(": f 0 " + least + " do i dup 0< if -1 else " + most
                + " negate 1 leave then +loop ; f", least + " " + most + " -" + most + " 1");
        // x = 0, n = least: y is below 0, x and n differ: both go
        Check.after(": f 5 5 do i " + least + " +loop ; f", "5");
        // x = least, n = least: y is 0, but x and n are alike: it goes back, then both go
        Check.after(": f 0 " + least + " do i " + least + " +loop ; f", least + " 0");
        // index - limit runs over: most - least is -1
        Check.after(": f " + least + " " + most + " do i 1 +loop ; f", most);
        // least - most is 1: upward it does not end there
        Check.after(": f " + most + " " + least + " do i -2 +loop ; f", least);
        Check.after(": f " + most + " " + least + " do i -1 +loop ; f", least + " " + most);
    }

    private static void leaves() {
        Check.of("leave: LEAVE, for the innermost do that is open, whatever else is open above it");
        for (String parts : new String[] {"if leave then", "if else leave then",
            "begin leave until", "begin while leave repeat", "begin if leave then until"}) {
            Check.after(": f do " + parts + " loop ; 5", "5");
            Check.after(": f " + parts, "error -22");
            Check.after(": f do loop " + parts, "error -22");
        }
        Check.after(": f leave", "error -22");
        Check.after(": f 9 0 do i leave 5 loop 7 ; f", "0 7");
        Check.after(": f 9 0 do i leave 5 1 +loop 7 ; f", "0 7");
        Check.after(": f 2 0 do 9 0 do leave loop i loop 7 ; f", "0 1 7");
        Check.after(": f 2 0 do 9 0 do loop i leave loop 7 ; f", "0 7");
        Check.after(": f 9 0 do i 2 = if leave then i 4 = if leave then i loop 7 ; f", "0 1 7");
        Check.after(": f 9 0 do i 4 = if leave then leave loop 7 ; f", "7");
        Check.after(": f 9 0 do 1 if leave then 5 loop 7 ; f", "7");
        Check.after(": f 9 0 ?do leave 5 ?do leave loop loop 7 ; f", "7");
        Check.due("both go", new Bench().with(": f 9 0 do leave loop begin again ; f").told(1),
                "0");
    }

    private static void does() {
        Check.of("DOES: the latest word of its own, if it was created (by create or variable; else"
                + " -9), gets what is behind this item as its behaviour; the call ends");
        Check.after(": d does> 7 ; create x d x", "1 7");
        Check.after(": d does> 7 ; variable x d x", "1 7");
        Check.after(": d does> 7 ; 5 constant x d", "error -9");
        Check.after(": d does> 7 ; marker x d", "error -9");
        Check.after(": d does> 7 ; : x ; d", "error -9");
        Check.after(": d does> 7 ; d", "error -9");
        Check.after(": d does> 7 ; create x : y ; d", "error -9");
        Check.after(": d does> 7 ; create x marker m m d x", "1 7");
        Check.after(": d does> 7 ; create x create y d x y", "1 1 7");
        Check.after(": d create does> ; d x x", "1");
        Check.after(": d create 5 does> 7 ; d x", "5");
        Check.after(": d does> 7 ; : e does> 8 ; create x d e x", "1 8");
        Check.after(": d create does> 7 does> 8 ; d x x x", "1 7 1 8");
        Check.after(": d create does> if 7 else 8 then ; d x x", "7");
        Check.after(": d if does> then 7 ; create x 1 d x", "1 7");
        Check.after(": d if does> then 7 ; create x 0 d x", "7 1");
        Check.after(": d create does> exit 7 ; d x x", "1");
        Check.after(": d create 2 0 do does> loop ; d x", "error -6");
    }
}
