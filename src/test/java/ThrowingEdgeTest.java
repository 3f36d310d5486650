/** Terms: a step, throwing with and without a catch, executing words of each kind, markers. */
public final class ThrowingEdgeTest {
    private static final int[] NONE_LEFT = {0, 0, 0};

    public static void main(String[] args) {
        stepsWithoutCalls();
        stepsWithCalls();
        endOfACatch();
        thrownWithACatch();
        cellsOfTheDataStack();
        cellsOfTheReturnStack();
        callsDownToTheCatch();
        thrownWithoutACatch();
        whatAnErrorLeaves();
        codes();
        execute();
        catches();
        createdWords();
        constants();
        markers();
        markersInCalls();
        markersWhileCompiling();
        Check.end();
    }

    private static Bench stepped(String text, int steps) {
        Bench bench = new Bench().feed(text);
        for (int i = 0; i < steps; i++) {
            bench.machine.run(1);
        }
        return bench;
    }

    private static void stepsWithoutCalls() {
        Check.of("A STEP: without calls, a word is read from the text, and what is told of it"
                + " done");
        Check.due("a number", stepped("1 2 3", 1).stack(), "1");
        Check.due("a primitive", stepped("1 dup dup", 2).stack(), "1 1");
        Check.due("a constant", stepped("5 constant c c c", 3).stack(), "5");
        Check.due("a name is read in the same step", stepped("create x 5", 1).told(3, 0), "1 0");
        Check.due(": and its name", stepped(": f 5 ; f", 1).told(7, 3), "1 0");
        Check.due("a number that is compiled", stepped(": f 5 ; f", 2).told(7, 3, 0), "1 0 0");
        Check.due(";", stepped(": f 5 ; f", 3).told(7, 3, 2), "0 1 0");
        Check.due("a call", stepped(": f 5 ; f", 4).told(2, 0), "1 0");
        Check.due("its first item", stepped(": f 5 ; f", 5).told(2, 0), "1 1");
        Check.due("its END", stepped(": f 5 ; f", 6).told(2, 0), "0 1");
    }

    private static void stepsWithCalls() {
        Check.of("with calls, the item at the place of the topmost one (which goes on before)");
        // of each body: the steps behind the call, before the last of which calls are there
        String[] bodies = {"1;2", "cr;2", "g;3", "if 5 then;3", "begin until;2", "2 0 do loop;6",
            "0 0 ?do loop;4", "2 0 do 1 +loop;8", "2 0 do leave loop;5", ".\" abc\";2",
            "if else then;3", "exit 5 6;1", "['] cr execute;3", "['] cr catch;4",
            "['] g catch;5", "0 throw;3"};
        for (String row : bodies) {
            String[] parts = row.split(";");
            int steps = Integer.parseInt(parts[1]);
            Bench bench = new Bench().with(": g ; : f " + parts[0] + " ;").push(1, 1).feed("f");
            Check.due("not yet, " + row, bench.machine.run(steps), ColonMachine.RUNNING);
            Check.due("a call is open, " + row, bench.told(2), "1");
            Check.due("now, " + row, bench.machine.run(1), ColonMachine.DONE);
        }
        Bench taken = new Bench().with(": f if 5 then ;").push(1, 0).feed("f");
        Check.due("a branch goes over items", taken.machine.run(3), ColonMachine.DONE);
    }

    private static void endOfACatch() {
        Check.of("if that is a catch, it goes, and 0 is pushed");
        Check.due("it is a call", stepped("5 ' dup catch", 3).told(0, 2), "2 1");
        Check.due("its step", stepped("5 ' dup catch", 4).told(0, 2), "3 0");
        Check.of("if there is no room for that, -3 is thrown, and that catch itself has it");
        Check.due("room for it", endOfCatch(62, "depth"), "64 0 62 1");
        Check.due("no room", endOfCatch(63, "depth"), "64 -3 1 1");
        Bench two = new Bench().with(": f 5 ; : g ['] f catch ;").push(63, 1);
        two.then("' g catch");
        // the inner one has 62 cells, because its token took one more: 62 and -3, then the outer 0
        Check.due("the inner one alone has it", two.told(0) + " " + two.machine.pick(0) + " "
                + two.machine.pick(1), "64 -3 1");
        Check.due("it is no error", two.machine.code(), 0);
        Bench error = new Bench().push(63, 1).feed("' depth catch");
        Check.due("the step of the catch", error.machine.run(3), ColonMachine.DONE);
        Check.due("calls", error.told(2), "0");
    }

    private static String endOfCatch(int cells, String word) {
        Bench bench = new Bench().push(cells, 1);
        bench.then("' " + word + " catch");
        return bench.told(0) + " " + bench.machine.pick(0) + " " + bench.machine.pick(1) + " "
                + bench.machine.pick(2);
    }

    private static void thrownWithACatch() {
        Check.of("THROWING n: with a catch among the calls");
        for (String n : new String[] {"1", "-1", "2147483647", "-2147483648", "-3"}) {
            Check.after(": f " + n + " throw 5 ; ' f catch 7", n + " 7");
            Check.after(n + " throw 5", "error " + n);
        }
        Check.of("throw (n - ; thrown, but 0)");
        Check.after("0 throw 5", "5");
        Check.after("8 0 throw 5", "8 5");
        Check.after(": f 0 throw 5 ; ' f catch 7", "5 0 7");
        Bench bench = new Bench().with("1 2 : g 7 throw ;");
        bench.then("' g catch 5 6");
        Check.due("the text stays", bench.stack(), "1 2 7 5 6");
        Bench compiling = new Bench().with(": e 7 throw ; : c ['] e catch ; immediate");
        Check.due("what is compiled stays", compiling.then(": f 5 c 6 ; f"), "7 5 6");
    }

    private static void cellsOfTheDataStack() {
        Check.of("the data stack has as many cells as it had (missing ones are 0), then n");
        Check.after("7 8 : f 9 throw ; ' f catch", "7 8 9");
        Check.after("7 8 : f 1 9 throw ; ' f catch", "7 8 9");
        Check.after("7 8 : f drop 9 throw ; ' f catch", "7 0 9");
        Check.after("7 8 : f 2drop 9 throw ; ' f catch", "0 0 9");
        Check.after("7 8 : f 2drop 1 9 throw ; ' f catch", "1 0 9");
        Check.after("7 8 : f 2drop 1 2 3 9 throw ; ' f catch", "1 2 9");
        Check.after(": f 9 throw ; ' f catch", "9");
        Check.after("7 ' + catch", "7 -4");
        Bench many = new Bench().with(": f " + Bench.times(63, "drop ") + "9 throw ;").push(63, 1);
        many.then("' f catch");
        Check.due("63 that are 0, and n", many.told(0) + many.machine.pick(0)
                + many.machine.pick(1) + many.machine.pick(63), "64900");
        Bench full = new Bench().with(": f 9 throw ;").push(63, 1);
        full.then("' f catch");
        Check.due("64 with n", full.told(0) + full.machine.pick(0) + full.machine.pick(1), "6491");
        // cells that were there before are 0 too, when they are missing
        Check.after("1 2 3 4 5 : f 2drop 2drop drop 9 throw ; ' f catch", "0 0 0 0 0 9");
    }

    private static void cellsOfTheReturnStack() {
        Check.of("the return stack has what it had then");
        Check.after(": f 5 >r 6 >r 9 throw ; : g 1 >r 2 >r ['] f catch r> r> ; g", "9 2 1");
        Check.after(": f 9 throw ; : g 1 >r ['] f catch r> ; g", "9 1");
        Check.after(": f 3 0 do 9 throw loop ; : g 2 0 do i ['] f catch loop ; g", "0 9 1 9");
        Bench bench = new Bench().with(": f 5 >r 9 throw ; ' f catch");
        Check.due("none", bench.told(1), "0");
        Bench full = new Bench().with(": f begin 1 >r again ; : g 1 >r ['] f catch r> ; g");
        Check.due("64, then what it had", full.stack(), "-3 1");
        Check.due("none is left", full.told(1, 2), "0 0");
    }

    private static void callsDownToTheCatch() {
        Check.of("all calls down to that one go");
        Check.after(": f dup if 1- recurse then 9 throw ; : g 5 ['] f catch ; g 7", "0 9 7");
        Check.after(": f 9 throw ; : g ['] f catch 1+ throw ; : h ['] g catch 1+ ; h", "11");
        Check.after(": f 9 throw ; : g ['] f catch 8 ; ' g catch", "9 8 0");
        Check.due("the latest catch, not the one below",
                new Bench().with(": f 9 throw ; : g ['] f catch begin again ;").with("' g catch")
                        .told(2, 0), "2 1");
        Check.after(": f recurse ; ' f catch 5", "-5 5");
        Bench bench = new Bench().with(": f 9 throw ; : g f ; : h g ; ' h catch");
        Check.due("calls", bench.told(2), "0");
    }

    private static void thrownWithoutACatch() {
        Check.of("Without: the text, both stacks and the calls are emptied, what is compiled is"
                + " dropped, and the run ends with an ERROR, whose code is n");
        Bench bench = new Bench().with(": g 1 >r 9 throw ; : f 2 >r g ;").feed("1 2 f 5 6 7");
        Check.due("the run", bench.machine.run(5000), ColonMachine.ERROR);
        Check.due("the code", bench.machine.code(), 9);
        for (int what = 0; what < NONE_LEFT.length; what++) {
            Check.due("told " + what, bench.machine.told(what), NONE_LEFT[what]);
        }
        Check.due("the text", bench.machine.feed(' ', 1), 1);
        Check.due("nothing is left", bench.machine.run(1), ColonMachine.DONE);
        Bench compiling = new Bench().with(": f 1 if 2 begin do");
        Check.due("compiling", compiling.told(7), "1");
        compiling.then("nonesuch");
        Check.due("dropped", compiling.told(7, 3), "0 0");
        Check.due("nothing of it comes back", compiling.then(": g 7 ; g"), "7");
        Check.due("nor is it open", compiling.then("then"), "error -14");
        Bench ended = new Bench().with(": f 5 throw ; ' f catch drop");
        Check.due("a catch that went is none", ended.then("6 throw"), "error 6");
    }

    private static void whatAnErrorLeaves() {
        Bench bench = new Bench().with("5 , 2 allocate 2drop 7 400 ! : f 5 ; 1 .");
        String before = bench.rest();
        bench.then("2 16 base ! 10 base ! nonesuch");
        Check.due("memory, heap, words and the out", bench.rest(),
                before.replace("|0 ", "|-13 ").replace(",10,", ",16,"));
        Check.due("a word is there", bench.then("f"), "5");
    }

    private static void codes() {
        Check.of("-3 a stack .. -40 a BASE that is none: each of them by a program");
        String[] rows = {"-3;: f begin 1 again ; f", "-4;drop", "-5;: f recurse ; f",
            "-6;: f r> ; f", "-8;400 allot", "-9;1 @", "-10;1 0 /", "-13;nonesuch", "-14;if",
            "-16;create", "-17;: f begin cr again ; f", "-22;: f then", "-29;: f :",
            "-40;1 1 base ! ."};
        for (String row : rows) {
            int at = row.indexOf(';');
            Check.after(row.substring(at + 1), "error " + row.substring(0, at));
        }
    }

    private static void execute() {
        Check.of("execute: the token goes, and it is executed in the same step");
        Check.due("a step", stepped("1 2 1012 execute", 4).stack(), "3");
        Check.due("execute of execute", stepped("1 2 1012 1055 1055 execute", 6).stack(), "3");
        Check.due("a call", stepped(": f 5 ; 0 execute", 5).told(0, 2), "0 1");
        Check.after("1055 execute", "error -4");
        Check.after(Bench.times(64, "1055 ") + "execute", "error -4");
        Check.after("-2147483648 execute", "error -9");
        Check.after("2147483647 execute", "error -9");
        Check.after(": f ' execute ; 5 f dup f drop", "5");
        Check.after(": f 1064 execute 5 ; f 7", "7");
        Check.after("1064 execute", "error -14");
    }

    private static void catches() {
        Check.of("catch: the token goes, a catch is made, with the stacks as they are then");
        Check.due("a step", stepped("1 2 1012 catch", 4).told(0, 2), "1 1");
        Check.due("a call and the catch", stepped(": f 5 ; 0 catch", 5).told(0, 2), "0 2");
        Check.after("7 1001 catch", "0");
        Check.after("1001 catch", "-4");
        Check.after("1056 catch", "-4");
        Check.after("1009 1056 catch", "0 0 0");
        Check.after("80 1056 catch", "80 -9");
        Check.after("catch", "error -4");
        Check.after("80 catch", "error -9");
        // 39 catches in a row, 40, and a 41st that is refused, which the 40th has
        Check.after("1053 " + Bench.times(38, "1056 ") + "catch depth", "0 ".repeat(39) + "39");
        Check.after("1053 " + Bench.times(39, "1056 ") + "catch depth", "0 ".repeat(40) + "40");
        Check.after("1053 " + Bench.times(40, "1056 ") + "catch depth",
                "1053 -5 " + "0 ".repeat(39) + "41");
        Check.after("5 1057 catch", "0 5");
        Check.after("0 1057 catch", "0");
    }

    private static void createdWords() {
        Check.of("A created word pushes its cell, and calls its behaviour, if it has one");
        Check.after("create x x variable y y x", "1 1 1");
        Check.after(": d create does> 7 ; d x x", "1 7");
        Check.due("one step, then the behaviour", new Bench().with(": d create does> 7 ; d x")
                .feed("x").machine.run(1), ColonMachine.RUNNING);
        Check.due("64 cells", new Bench().with("create x").push(63, 1).with("x").told(0), "64");
        Check.due("65 cells", new Bench().with("create x").push(64, 1).then("x"), "error -3");
        Check.due("65 cells and a behaviour", new Bench().with(": d create does> drop ; d x")
                .push(64, 1).then("x"), "error -3");
        Check.due("64 cells and a behaviour", new Bench().with(": d create does> drop ; d x")
                .push(63, 1).with("x").told(0), "63");
        Check.after("399 allot create x x", "400");
    }

    private static void constants() {
        Check.of("A constant pushes its value");
        Check.after("2147483647 constant a -2147483648 constant b 0 constant c a b c",
                "2147483647 -2147483648 0");
        Check.due("64 cells", new Bench().with("5 constant x").push(63, 1).with("x").told(0),
                "64");
        Check.due("65 cells", new Bench().with("5 constant x").push(64, 1).then("x"), "error -3");
    }

    private static void markers() {
        Check.of("A marker: all words from it on go, HERE becomes what it was when it was made"
                + " (no cell changes)");
        Bench bench = new Bench().with("create a 5 , marker m 6 , create b 7 , : c ;");
        Check.due("before", bench.told(3, 4), "4 4");
        Check.due("m", bench.then("m"), "");
        Check.due("behind", bench.told(3, 4), "1 2");
        Check.due("a is there", bench.then("a @"), "5");
        for (String word : new String[] {"m", "b", "c"}) {
            Check.due(word + " is gone", bench.then(word), "error -13");
        }
        Check.after("marker m m", "");
        Check.due("the first of words", new Bench().with("marker m create a 5 , m").told(3, 4),
                "0 1");
        Check.due("the last of words", new Bench().with("create a 5 , marker m m").told(3, 4),
                "1 2");
        Check.after("5 , 6 , marker m -2 allot m here 1 @ 2 @", "3 5 6");
        Check.after("5 , 6 , marker m -2 allot 8 , m here 1 @ 2 @", "3 8 6");
        Check.after("399 allot marker m -399 allot m here", "400");
        Check.after("marker m 399 allot m here", "1");
        Check.after("5 , marker m 6 , m 2 @", "error -9");
        Check.after("3 allocate marker m 4 400 ! m 400 @ 400 free", "400 0 4 0");
        Check.after("7 8 marker m m", "7 8");
    }

    private static void markersInCalls() {
        Check.of("-9, if the body of one that goes is in a call");
        Check.after("marker m : f m ; f", "error -9");
        Check.after("marker m : f ['] m execute ; f", "error -9");
        Check.after("marker m : f ['] m catch ; f", "-9");
        Check.after(": f ' execute 5 ; marker m : g 1 ; f m", "5");
        Check.after(": f ' execute ; marker m : g f ; g m", "error -9");
        Check.after(": f ' execute ; : g f 6 ; marker m : h ; g m", "6");
        Check.after("marker m ' m catch", "0");
        Check.after("marker m : d create does> drop m ; d x x", "error -9");
        Check.after(": d create does> drop ' execute 5 ; marker m d x x m", "5");
        Bench bench = new Bench().with("1 , marker m : f m ; 2 ,");
        bench.then("' f catch");
        Check.due("nothing has changed", bench.told(3, 4) + " " + bench.stack(), "2 3 -9");
        Check.due("without the call it goes", bench.with("m").told(3, 4), "0 2");
    }

    private static void markersWhileCompiling() {
        Check.of("-29 while compiling");
        Check.after("marker m immediate : f m", "error -29");
        Check.after("marker m immediate m", "");
        Check.after(": e ' execute ; immediate marker m e m 5", "5");
        Check.after(": e ' execute ; immediate marker m : f e m", "error -29");
        Check.after(": e ' catch ; immediate marker m : f e m drop 5 ; f", "5");
        Check.due("nothing has changed", new Bench().with(": e ' catch ; immediate marker m 5 ,"
                + " : f e m drop").told(3, 4, 7), "2 2 1");
    }
}
