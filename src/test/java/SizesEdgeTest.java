/** Terms: the sizes of stacks, memory, dictionary, bodies and calls; on each and beyond it. */
public final class SizesEdgeTest {
    private static final Class<?> STATE = IllegalStateException.class;
    private static final Class<?> INDEX = IndexOutOfBoundsException.class;

    public static void main(String[] args) {
        cellsRunOver();
        dataStack();
        returnStack();
        memory();
        base();
        here();
        heap();
        valid();
        words();
        wordsOfEachKind();
        tokens();
        items();
        itemsOfEachKind();
        calls();
        callsOfEachKind();
        Check.end();
    }

    private static void cellsRunOver() {
        Check.of("CELLS are ints, sums and products run over");
        Check.after("2147483646 1 + 2147483647 1 +", "2147483647 -2147483648");
        Check.after("-2147483647 1 - -2147483648 1 -", "-2147483648 2147483647");
        Check.after("-2147483648 -2147483648 +", "0");
        Check.after("0 -2147483648 -", "-2147483648");
        Check.after("46340 46340 * 46341 46341 *", "2147395600 -2147479015");
        Check.after("-2147483648 -1 * 65536 65536 * 2147483647 2 *", "-2147483648 0 -2");
        Check.after("2147483646 1+ 2147483647 1+", "2147483647 -2147483648");
        Check.after("-2147483647 1- -2147483648 1-", "-2147483648 2147483647");
        Check.after("1073741823 2* 1073741824 2* -1073741824 2* -1073741825 2*",
                "2147483646 -2147483648 -2147483648 2147483646");
        Check.after("variable x 2147483646 x ! 1 x +! x @ 1 x +! x @", "2147483647 -2147483648");
        Check.after("variable x -2147483648 x ! -1 x +! x @", "2147483647");
    }

    private static void dataStack() {
        Check.of("THE DATA STACK has 64 cells at most");
        Bench bench = new Bench().push(62, 1);
        Check.due("up to it", bench.with("7").told(0), "63");
        Check.due("on it", bench.with("8").told(0), "64");
        Check.due("the topmost", bench.machine.pick(0) + " " + bench.machine.pick(1), "8 7");
        Check.thrown("beyond it, by push", STATE, () -> bench.machine.push(9));
        Check.due("refused", bench.told(0) + " " + bench.machine.pick(0), "64 8");
        Check.due("beyond it, by a number", bench.then("9"), "error -3");
        Check.due("emptied", bench.told(0), "0");
        Check.due("all 64 are of use", new Bench().push(64, 1)
                .then(Bench.times(63, "+ ")), "64");
    }

    private static void returnStack() {
        Check.of("THE RETURN STACK 64");
        Check.due("up to it", pushedToReturns(63, "begin again").told(1), "63");
        Check.due("on it", pushedToReturns(64, "begin again").told(1), "64");
        Check.due("beyond it", pushedToReturns(65, "begin again").machine.code(), -3);
        Check.due("a loop up to it", pushedToReturns(62, "2 0 do begin again loop").told(1), "64");
        Check.due("a loop beyond it by one",
                pushedToReturns(63, "2 0 do begin again loop").machine.code(), -3);
        Check.due("a loop beyond it by two",
                pushedToReturns(64, "2 0 do begin again loop").machine.code(), -3);
        Check.due("?do up to it",
                pushedToReturns(62, "2 0 ?do begin again loop").told(1), "64");
        Check.due("?do beyond it",
                pushedToReturns(63, "2 0 ?do begin again loop").machine.code(), -3);
        Check.due("what calls below have counts too",
                new Bench().with(": f >r begin again ; : g " + Bench.times(63, "dup >r ")
                        + "f ; 5 g").told(1), "64");
        Check.due("and beyond", new Bench().with(": f >r begin again ; : g "
                + Bench.times(64, "dup >r ") + "f ; 5 g").machine.code(), -3);
    }

    private static Bench pushedToReturns(int n, String behind) {
        return new Bench().with(": f " + Bench.times(n, "dup >r ") + behind + " ; 5 f");
    }

    private static void memory() {
        Check.of("MEMORY has cells 0 .. 999");
        Bench all = new Bench().with("399 allot 600 allocate 2drop 8 999 ! 7 0 !");
        Check.due("its ends", all.peeked(-1) + " " + all.peeked(0) + " " + all.peeked(1) + " "
                + all.peeked(999) + " " + all.peeked(1000), "none 7 0 8 none");
        Check.due("between data space and heap", all.peeked(399) + all.peeked(400), "00");
        for (String cell : new String[] {"-1", "1000", "-2147483648", "2147483647"}) {
            Bench full = new Bench().with("399 allot 600 allocate 2drop");
            Check.due(cell + " @", full.then(cell + " @"), "error -9");
            Check.due(cell + " !", full.then("5 " + cell + " !"), "error -9");
            Check.due(cell + " +!", full.then("5 " + cell + " +!"), "error -9");
        }
    }

    private static void base() {
        Check.of("0 is BASE, at first 10");
        Check.after("0 @ base base @", "10 0 10");
        Check.after("16 0 ! 10 base @", "16 16");
        Check.said("10 3 base ! .", "101 ");
        Check.after("5 base +! f", "error -13");
        Check.after("6 base +! f", "15");
    }

    private static void here() {
        Check.of("DATA SPACE begins at 1: HERE, at first 1, is its end, 400 at most");
        Check.after("here", "1");
        Check.after("7 , 1 @ here", "7 2");
        Check.after("398 allot here", "399");
        Check.after("399 allot here", "400");
        Check.after("400 allot", "error -8");
        Check.after("397 allot 5 , here 5 , here", "399 400");
        Check.after("399 allot 5 ,", "error -8");
        Check.after("398 allot variable x x here", "399 400");
        Check.after("399 allot variable x", "error -8");
        Check.after("399 allot create x x here", "400 400");
        Check.after("399 allot marker m m here", "400");
        Bench full = new Bench().with("399 allot");
        Check.due("refused", full.with("5 ,").told(4), "400");
        Check.due("refused", full.with("1 allot").told(4), "400");
        Check.due("refused", full.with("variable x").told(4, 3), "400 0");
    }

    private static void heap() {
        Check.of("THE HEAP is 400 .. 999");
        Check.after("1 allocate", "400 0");
        Check.after("599 allocate 1 allocate 1 allocate", "400 0 999 0 0 -59");
        Check.after("600 allocate", "400 0");
        Check.after("601 allocate", "0 -59");
        Bench bench = new Bench().with("600 allocate 2drop 3 400 ! 4 999 !");
        Check.due("its ends", bench.peeked(399) + " " + bench.peeked(400) + " "
                + bench.peeked(999) + " " + bench.peeked(1000), "none 3 4 none");
        Check.due("blocks and cells", bench.told(5, 6), "1 600");
    }

    private static void valid() {
        Check.of("A cell is VALID, if it is below HERE, or in a block of the heap");
        Bench bench = new Bench().with("5 , 6 ,");
        Check.due("below HERE", bench.peeked(2), "6");
        Check.thrown("HERE itself", INDEX, () -> bench.machine.peek(3));
        bench.then("-1 allot");
        Check.thrown("no longer below HERE", INDEX, () -> bench.machine.peek(2));
        bench.then("2 allocate 2drop 2 allocate 2drop 2 allocate 2drop 402 free drop");
        Check.due("in blocks", bench.peeked(400) + bench.peeked(401) + bench.peeked(404)
                + bench.peeked(405), "0000");
        Check.due("not in a block", bench.peeked(399) + bench.peeked(402) + bench.peeked(403)
                + bench.peeked(406), "nonenonenonenone");
        Check.due("@ of one", bench.then("405 @"), "0");
        Check.due("@ behind it", bench.then("406 @"), "error -9");
        Check.due("! of a freed one", bench.then("1 403 !"), "error -9");
        Check.due("! into the next block", bench.then("1 404 ! 404 @"), "1");
        Check.due("HERE @", bench.then("here @"), "error -9");
        Check.due("HERE !", bench.then("7 here !"), "error -9");
        Check.due("HERE 1- @", bench.then("here 1- @"), "5");
        Check.due("0 is always valid", bench.then("drop -1 allot here 0 @"), "1 10");
    }

    private static void words() {
        Check.of("The DICTIONARY has words of its own, 80 at most");
        Bench bench = withWords(78);
        Check.due("up to it", bench.with("create a").told(3), "79");
        Check.due("on it", bench.with(": b 5 ;").told(3), "80");
        Check.due("the last is of use", bench.then("b"), "5");
        Check.due("beyond it", bench.then("create c"), "error -8");
        Check.due("refused", bench.told(3), "80");
        Check.due("it is not there", bench.then("c"), "error -13");
        Check.due("the others are", bench.then("b w"), "5 1");
    }

    private static Bench withWords(int n) {
        Bench bench = new Bench();
        for (int made = 0; made < n; made++) {
            bench.feed("create w");
            bench.machine.run(1);
        }
        return bench;
    }

    private static void wordsOfEachKind() {
        for (String text : new String[] {"create a", "variable a", "5 constant a", "marker a",
            ": a ;"}) {
            Check.due("the 80th: " + text, withWords(79).with(text).told(3), "80");
            Bench full = withWords(80);
            Check.due("the 81st: " + text, full.then(text), "error -8");
            Check.due("refused: " + text, full.told(3, 4, 7), "80 1 0");
        }
        Check.of("; -8, if there are 80 words");
        Bench begun = withWords(80);
        Check.due(": may be done", begun.then(": a 5") + begun.told(7), "1");
        Check.due("; not", begun.then(";"), "error -8");
    }

    private static void tokens() {
        Check.of("each with a TOKEN: their number, 0, 1, ..");
        Check.after("create a create b ' a ' b", "0 1");
        Check.after("5 constant a a 0 execute", "5 5");
        Check.after("5 constant a 1 execute", "error -9");
        Check.after("5 constant a -1 execute", "error -9");
        Check.due("the greatest", withWords(79).then("5 constant a 79 execute ' a"), "5 79");
        Check.due("beyond it", withWords(79).then("5 constant a 80 execute"), "error -9");
        Check.after("marker m 5 constant a m 6 constant b 0 execute", "6");
        Check.of("PRIMITIVES have 1000 and their place in the list below");
        Check.after("5 1000 execute", "5 5");
        Check.after("999 execute", "error -9");
        Check.after("1070 execute", "");
        Check.after("1071 execute", "error -9");
        Check.after("' dup ' immediate", "1000 1070");
        Check.of("SPECIALS have none");
        Check.after("' if", "error -13");
        Check.after(": f ['] ; ;", "error -13");
    }

    private static void items() {
        Check.of("A BODY is a row of ITEMS, 150 at most");
        Check.due("148 and END", withItems(148).then("; depth"), "0");
        Check.due("149 and END", withItems(149).then("; depth"), "0");
        Check.due("150 and END", withItems(150).then(";"), "error -8");
        Check.due("a 150th", withItems(149).then("1"), "");
        Check.due("a 151st", withItems(150).then("1"), "error -8");
        Bench full = new Bench().with(": f " + Bench.times(148, "cr ") + "7 ;");
        Check.due("all of 150 run", full.then("f") + " " + full.machine.out(), "7 148");
        Bench dropped = withItems(150);
        dropped.then("1");
        Check.due("what is compiled is dropped", dropped.told(3, 7), "1 0");
        Check.due("and another may be compiled", dropped.then(": g 5 ; g"), "5");
    }

    private static Bench withItems(int n) {
        return new Bench().with(": g ; : f " + Bench.times(n, "1 "));
    }

    private static void itemsOfEachKind() {
        for (String text : new String[] {"1", "dup", "g", "['] g", "recurse", "if", "begin while",
            "do", "?do", "does>", ".\" a\"", ".\" \"", "begin until", "begin again"}) {
            Check.due("the 150th: " + text, withItems(149).then(text), "");
            Check.due("the 151st: " + text, withItems(150).then(text), "error -8");
        }
        for (String[] pair : new String[][] {{"if", "else"}, {"do", "loop"}, {"do", "+loop"},
            {"do", "leave"}, {"begin 1 while", "repeat"}}) {
            int opened = pair[0].startsWith("begin") ? 2 : 1;
            Bench on = new Bench().with(": f " + pair[0] + " " + Bench.times(149 - opened, "1 "));
            Check.due("the 150th: " + pair[1], on.then(pair[1]), "");
            Bench beyond = new Bench().with(": f " + pair[0] + " "
                    + Bench.times(150 - opened, "1 "));
            Check.due("the 151st: " + pair[1], beyond.then(pair[1]), "error -8");
        }
        Bench none = new Bench().with(": f if " + Bench.times(149, "1 "));
        Check.due("then and begin add none", none.then("then begin ( a ) \\ b"), "");
    }

    private static void calls() {
        Check.of("THE CALLS are a pile of 40 at most");
        String text = ": f dup if 1- recurse exit then begin again ; ";
        Check.due("39", new Bench().with(text + "38 f").told(2), "39");
        Check.due("40", new Bench().with(text + "39 f").told(2), "40");
        Check.due("41", new Bench().with(text + "40 f").machine.code(), -5);
        Bench ends = new Bench().with(": f dup if 1- recurse then 1+ ;");
        Check.due("40 calls end", ends.then("39 f"), "40");
        Check.due("41 do not", ends.then("40 f"), "error -5");
        Check.due("emptied", ends.told(0, 1, 2), "0 0 0");
    }

    private static void callsOfEachKind() {
        Check.of("each a body and a place in it, or a CATCH");
        // f comes down to n calls of itself, and then does what is behind
        String[] last = {"g", "['] g execute", "['] g catch", "['] drop catch", "x",
            "['] x execute", "recurse"};
        for (String item : last) {
            String text = ": g ; : d create does> ; d x : f dup if 1- recurse exit then drop "
                    + item + " ;";
            boolean two = item.equals("['] g catch");
            int fits = item.equals("recurse") ? -1 : two ? 37 : 38;
            if (fits >= 0) {
                Bench on = new Bench().with(text).push(1, 9);
                on.then(fits + " f");
                Check.due(item + " on 40 calls", on.machine.code(), 0);
            }
            Bench beyond = new Bench().with(text).push(1, 9);
            Check.due(item + " beyond 40 calls", beyond.then("39 f"), "error -5");
        }
        // the catch is the 40th, and has the -5 of the call itself
        Check.due("a catch that can not call", new Bench().with(": g ; : f dup if 1- recurse exit"
                + " then drop ['] g catch ;").then("9 38 f"), "9 -5");
        Check.due("a constant is no call", new Bench().with("5 constant c : f dup if 1- recurse"
                + " exit then drop c ;").then("39 f"), "5");
        Check.due("nor is a created word without behaviour", new Bench().with("create c"
                + " : f dup if 1- recurse exit then drop c ;").then("39 f"), "1");
    }
}
