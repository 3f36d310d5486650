/** Terms: of several faults the first, and that what throws one does nothing else. */
public final class FaultsEdgeTest {
    private static final String DEEP = ": f dup if 1- recurse exit then drop ";
    private static final String ITEMS = ": g " + Bench.times(150, "1 ");
    private static final String FULL_OUT = ": o 800 0 do space loop ; o";
    private static final String FULL_RETURNS = Bench.times(64, "1 >r ");

    public static void main(String[] args) {
        firstOfOnlyInBodies();
        firstOfNotWhileCompiling();
        firstOfTooFew();
        firstOfReturns();
        firstOfTooMany();
        firstOfNames();
        firstOfRoom();
        firstOfTheRest();
        firstOfTokens();
        tooFewDoNothing();
        faultsOfDataDoNothing();
        faultsOfRoomDoNothing();
        faultsOfOutDoNothing();
        faultsOfBodiesDoNothing();
        tooManyDoNothing();
        readWordsAreGone();
        Check.end();
    }

    /** The setup is run, then the text, which must come to the error. */
    private static void error(int code, String setup, String text) {
        Check.due(setup + " | " + text, new Bench().with(setup).then(text), "error " + code);
    }

    private static void full(int code, String setup, String text) {
        Check.due(setup + " | 64 cells | " + text, new Bench().with(setup).push(64, 1).then(text),
                "error " + code);
    }

    private static Bench eightyWords() {
        return new Bench().with(": mk 79 0 do create loop ; mk " + Bench.times(79, "w "));
    }

    private static void firstOfOnlyInBodies() {
        Check.of("Of several the first of these: -14, ..");
        error(-14, "", ">r");
        for (String word : new String[] {"r>", "r@", "i", "j", "unloop"}) {
            error(-14, "", word);
            Check.after("' " + word + " catch", "-14");
        }
        for (String word : new String[] {"r>", "r@", "i", "j"}) {
            full(-14, "", word);
        }
        error(-14, "", "[']");
        error(-14, "", "['] nonesuch");
        for (String word : new String[] {"else", "then", "until", "again", "while", "repeat",
            "loop", "+loop", "leave"}) {
            error(-14, "", word);
        }
        Check.due("-14, then -8", eightyWords().then(";"), "error -14");
        Check.due("-14, then -4", Bench.after("' >r catch"), "-14");
        Check.due("-14, then -4", Bench.after(": f ['] >r catch ; f"), "-14");
    }

    private static void firstOfNotWhileCompiling() {
        Check.of("-29, ..");
        error(-29, ": f", ":");
        error(-29, ": f", ": toolongname");
        error(-29, "marker m : e ' execute ; immediate : f", "e m");
        Check.due("-29, then -8", eightyWords().with(": f").then(": g"), "error -29");
        error(-29, ": f if", ": g");
    }

    private static void firstOfTooFew() {
        Check.of("-4, ..");
        error(-4, ": f 2 0 do unloop +loop ;", "f");
        error(-4, "", ": f " + FULL_RETURNS + "depth pick ; f");
        error(-4, "", ": f " + FULL_RETURNS + ">r ; f");
        error(-4, "", ": f " + FULL_RETURNS + "do loop ; f");
        error(-4, "", ": f " + FULL_RETURNS + "?do loop ; 1 f");
        error(-4, "", "constant");
        error(-4, "", "constant toolongname");
        Check.due("-4, then -8", eightyWords().then("constant x"), "error -4");
        error(-4, "399 allot", ",");
        for (String word : new String[] {"/", "mod", "/mod"}) {
            error(-4, "", "0 " + word);
        }
        error(-4, "", "1 0 */");
        for (String word : new String[] {".", "u."}) {
            error(-4, "0 base !", word);
            error(-4, FULL_OUT, word);
        }
        error(-4, FULL_OUT, "emit");
        error(-4, "", "1000 !");
        error(-4, "", "1000 +!");
        error(-4, DEEP + "catch ;", "39 f");
        error(-4, DEEP + "execute ;", "39 f");
        Check.due("pick of a full stack", new Bench().push(64, 64).then("pick"), "error -4");
    }

    private static void firstOfReturns() {
        Check.of("-6, ..");
        for (String word : new String[] {"r>", "r@", "i", "j"}) {
            full(-6, ": f " + word + " ;", "f");
        }
        full(-6, ": f >r i ;", "f");
        // the latest word is not a created one
        error(-6, ": d 1 >r does> ; : e ;", "d");
        error(-9, ": d does> ; : e ;", "d");
        error(-6, ": d 1 >r does> ; create e", "d");
        error(-6, ": f 2 0 do exit loop ;", "f");
    }

    private static void firstOfTooMany() {
        Check.of("-3, ..");
        full(-3, "", "'");
        full(-3, "", "' nonesuch");
        full(-3, "", "' if");
        full(-3, ": d create does> ; d x " + DEEP.replace("drop", "") + "x ;", "2drop 0 39 f");
        String deep = ": d create does> drop ; d x " + DEEP.replace("drop", "") + "x ;";
        Check.due("-3, then -5", new Bench().with(deep).push(63, 1).then("39 f"), "error -3");
        Check.due("-5", new Bench().with(deep).push(62, 1).then("39 f"), "error -5");
        full(-3, "", "allocate");
        full(-3, "600 allocate 2drop", "allocate");
    }

    private static void firstOfNames() {
        Check.of("-16, -13, -8, ..");
        for (String word : new String[] {"create", "variable", "5 constant", "marker"}) {
            Check.due("-16, then -8", eightyWords().then(word), "error -16");
            Check.due("-16, then -8", eightyWords().then(word + " toolongname"), "error -16");
            Check.due("-8", eightyWords().then(word + " x"), "error -8");
        }
        error(-16, "399 allot", "variable");
        error(-16, "399 allot", "variable toolongname");
        error(-8, "399 allot", "variable x");
        error(-16, ITEMS, "[']");
        error(-13, ITEMS, "['] nonesuch");
        error(-13, ITEMS, "['] then");
        error(-13, ITEMS, "['] 5");
        error(-8, ITEMS, "['] dup");
        error(-13, ITEMS, "nonesuch");
        error(-16, ITEMS, ".\" a");
        error(-8, ITEMS, ".\" a\"");
        error(-16, FULL_OUT, ".\" a");
        error(-17, FULL_OUT, ".\" a\"");
    }

    private static void firstOfRoom() {
        Check.of("-8, .. -22");
        for (String word : new String[] {"else", "until", "again", "while", "repeat", "loop",
            "+loop", "leave", ";"}) {
            error(-8, ITEMS, word);
        }
        for (String word : new String[] {"else", "until", "again", "while", "repeat", "loop",
            "+loop", "leave"}) {
            error(-22, ": f " + Bench.times(149, "1 "), word);
        }
        error(-22, ITEMS, "then");
        Check.due("-8, then -22", eightyWords().with(": f if").then(";"), "error -8");
        error(-22, ": f if", ";");
        error(-8, ": f if " + Bench.times(149, "1 "), ";");
    }

    private static void firstOfTheRest() {
        Check.of("-40, -17, ..");
        for (String word : new String[] {".", "u."}) {
            error(-40, FULL_OUT + " 5 0 base !", word);
            error(-17, FULL_OUT + " 5", word);
            error(-40, "5 37 base !", word);
        }
        error(-17, FULL_OUT + " 0 base !", "cr");
    }

    private static void firstOfTokens() {
        Check.of("execute: -4, then -9, before all else; catch: -4, then -9, then -5");
        error(-9, DEEP + "catch ;", "80 39 f");
        error(-5, DEEP + "catch ;", "1000 39 f");
        error(-9, DEEP + "execute ;", "80 39 f");
        error(-4, DEEP + "execute ;", "1000 39 f");
        // the token is looked at before what it would do, and it goes before
        full(-9, "", "drop 999 execute");
        full(-3, "", "drop 1000 execute dup");
        Check.due("the token's cell is free", new Bench().push(63, 1).with("1009 execute").told(0),
                "64");
        error(-14, "", "1040 execute");
        error(-14, "", "1041 catch throw");
        error(-16, "", "1065 execute");
    }

    /** The cells are put, the word is caught: the same cells and the code, and nothing changed. */
    private static void nothing(int code, String setup, String cells, String word, String want) {
        Bench bench = new Bench().with(setup);
        String before = bench.rest();
        String due = want.isEmpty() ? Integer.toString(code) : want + " " + code;
        Check.due(setup + " | " + cells + " | " + word,
                bench.then(cells + " ' " + word), due);
        Check.due("nothing else: " + setup + " | " + cells + " | " + word, bench.rest(), before);
    }

    private static void nothing(int code, String setup, String cells, String word) {
        nothing(code, setup, cells, word + " catch", cells);
    }

    private static void tooFewDoNothing() {
        Check.of("What throws one does nothing else");
        String setup = "variable x 7 x ! 3 allocate 2drop";
        for (String word : new String[] {"dup", "drop", "?dup", "pick", "negate", "abs", "1+",
            "1-", "2*", "2/", "invert", "0=", "0<", "@", ",", "allot", ".", "u.", "emit",
            "execute", "catch", "throw", "allocate", "free", "constant"}) {
            nothing(-4, setup, "", word);
        }
        for (String word : new String[] {"swap", "over", "nip", "tuck", "2dup", "2drop", "+", "-",
            "*", "/", "mod", "/mod", "min", "max", "and", "or", "xor", "lshift", "rshift", "=",
            "<>", "<", ">", "u<", "!", "+!", "resize"}) {
            nothing(-4, setup, "1", word);
        }
        nothing(-4, setup, "1 2", "rot");
        nothing(-4, setup, "1 2", "*/");
        nothing(-4, setup, "6 7 2", "pick");
        nothing(-4, setup, "6 7 -1", "pick");
        nothing(-4, setup, "6 7 -2147483648", "pick");
        nothing(-4, setup, "6 7 2147483647", "pick");
    }

    private static void faultsOfDataDoNothing() {
        nothing(-10, "", "7 0", "/");
        nothing(-10, "", "7 0", "mod");
        nothing(-10, "", "7 0", "/mod");
        nothing(-10, "", "6 7 0", "*/");
        for (String cell : new String[] {"-1", "2", "399", "400", "999", "1000"}) {
            nothing(-9, "7 ,", cell, "@");
            nothing(-9, "7 ,", "5 " + cell, "!");
            nothing(-9, "7 ,", "5 " + cell, "+!");
        }
        nothing(-9, "5 constant c", "1", "execute");
        nothing(-9, "5 constant c", "-1", "execute");
        nothing(-9, "5 constant c", "1071", "catch");
        for (String word : new String[] {">r", "r>", "r@", "i", "j", "unloop", "exit"}) {
            nothing(-14, "", "1 2", word);
        }
        nothing(-13, "", "", "' catch nonesuch", "");
        nothing(-13, "", "", "' catch if", "");
        nothing(-13, "", "", "' catch 5", "");
        nothing(-16, "", "", "' catch", "");
    }

    private static void faultsOfRoomDoNothing() {
        nothing(-8, "399 allot", "5", ",");
        nothing(-8, "399 allot", "1", "allot");
        nothing(-8, "7 ,", "399", "allot");
        nothing(-8, "7 ,", "-2", "allot");
        nothing(-8, "399 allot", "", "variable catch x", "");
        nothing(-16, "7 ,", "5", "constant catch", "5");
        nothing(-16, "7 ,", "5", "constant catch toolongname", "5");
        for (String word : new String[] {"create", "variable", "marker"}) {
            nothing(-16, "7 ,", "", word + " catch", "");
            nothing(-16, "7 ,", "", word + " catch toolongname", "");
        }
        for (String word : new String[] {"create", "variable", "marker", "constant"}) {
            Bench bench = eightyWords();
            String before = bench.rest();
            Check.due("80 words, " + word, bench.then("5 ' " + word + " catch x"), "5 -8");
            Check.due("80 words, nothing else: " + word, bench.rest(), before);
        }
    }

    private static void faultsOfOutDoNothing() {
        for (String word : new String[] {".", "u.", "emit", "cr", "space"}) {
            nothing(-17, FULL_OUT, "5", word);
        }
        nothing(-17, ": f .\" ab\" ; : o 799 0 do space loop ; o", "5", "f");
        nothing(-17, ": o 798 0 do space loop ; o", "-5", ".");
        nothing(-17, ": o 790 0 do space loop ; o", "-1", "u.");
        for (String word : new String[] {".", "u."}) {
            Bench bench = new Bench().with("variable x ' " + word + " x !").push(1, 5);
            bench.then("1 base !");
            String before = bench.rest();
            Check.due("-40 of " + word, bench.then("x @ catch"), "5 -40");
            Check.due("-40, nothing else", bench.rest(), before);
        }
    }

    private static void faultsOfBodiesDoNothing() {
        for (String word : new String[] {"r>", "r@", "i", "j", "unloop"}) {
            nothing(-6, ": f " + word + " ;", "1 2", "f");
        }
        nothing(-6, ": f 1 >r ;", "1 2", "f");
        nothing(-6, ": f 1 >r exit ;", "1 2", "f");
        nothing(-6, ": d 1 >r does> drop 8 ; create x", "1 2", "d");
        Check.due("no behaviour is given", new Bench().with(": d 1 >r does> drop 8 ; create x")
                .then("' d catch x"), "-6 1");
        nothing(-9, ": d does> drop 8 ; create x 5 constant y", "1 2", "d");
        nothing(-9, "5 , marker m : f m ; 6 ,", "1 2", "f");
        nothing(-5, ": f recurse ;", "1 2", "f");
        // the cell of a created word is not pushed, when its behaviour can not be called
        Check.due("-5", new Bench().with("variable n : d does> 1 n +! ; create x d " + DEEP
                + "depth n ! ['] x execute ;").then("8 9 39 f"), "error -5");
        Bench deep = new Bench().with("variable n : d does> ; create x d : g depth n ! x ; " + DEEP
                + "['] g catch depth n +! ;");
        Check.due("two more calls", deep.then("8 9 37 f"), "8 9 -5");
        Check.due("cells before and behind", deep.machine.peek(1), 2 + 3);
    }

    private static void tooManyDoNothing() {
        String setup = "variable x 7 x !";
        for (String word : new String[] {"dup", "over", "tuck", "depth", "2dup", "here", "base",
            "allocate", "?dup", "x", "5", "' dup"}) {
            boolean reads = word.startsWith("'");
            Bench bench = new Bench().with(setup + " : f 9 " + (reads ? "'" : word) + " ;");
            bench.push(63, 1);
            String before = bench.rest();
            bench.then("' f catch" + (reads ? " dup" : ""));
            // ' has not read it, so that dup is done behind the catch, and there is no room for it
            Check.due("64 cells and " + word, bench.machine.code(), reads ? -3 : 0);
            if (!reads) {
                Check.due("-3 of " + word, bench.told(0) + " " + bench.machine.pick(0) + " "
                        + bench.machine.pick(1), "64 -3 1");
                Check.due("nothing else: " + word, bench.rest(), before);
            }
        }
    }

    private static void readWordsAreGone() {
        Check.of("(words that it has read are gone)");
        Check.after("' create catch toolongname 5", "-16 5");
        Check.after("' ' catch nonesuch 5", "-13 5");
        Check.after("' ' catch then 5", "-13 5");
        Check.after("399 allot ' variable catch dup 5", "-8 5");
        Check.due("-8", eightyWords().then("' create catch dup 5"), "-8 5");
        // those that it has not read are not
        Check.after("' constant catch dup", "-4 -4");
        Check.due("' on a full stack", new Bench().with(": f 9 ' ;").push(63, 1)
                .with("' f catch drop").told(0), "63");
    }
}
