/** Promise 3: created words, constants, behaviours, markers. */
public final class DefiningTest {
    public static void main(String[] args) {
        creates();
        behaviours();
        behaviourFaults();
        markers();
        markerFaults();
        tooManyWords();
        Check.end();
    }

    private static void creates() {
        Check.after("create x 5 , 6 , x @ x 1+ @", "5 6");
        Check.after("variable x x @ x here", "0 1 2");
        Check.after("7 , -1 allot variable x x @", "0");
        Check.after("5 constant c c c", "5 5");
        Check.after(": var create 0 , ; var x 9 x ! x @", "9");
        Check.after(": con constant ; 5 con c c", "5");
        Check.after(": f ' execute ; 5 f dup", "5 5");
        // what comes before the name is looked at before it is read
        Check.after("' constant catch dup 5", "-4 -4 5");
        Check.after("5 ' constant catch toolongname", "5 -16");
        Check.after("' create catch", "-16");
        Check.after("create x create y x y", "1 1");
        Check.after("create x 1 allot create x x", "2");
    }

    private static void behaviours() {
        Check.after(": con create , does> @ ; 5 con five 6 con six five six", "5 6");
        Check.after(": d does> @ 1+ ; variable x 8 x ! d x", "9");
        Check.after(": d does> drop 1 ; : e does> drop 2 ; create x d x e x", "1 2");
        Check.after(": d create does> drop 7 does> drop 8 ; d x x x d y x y", "7 8 8 7");
        Check.after(": d does> 5 ; create x d x d ' x execute", "1 5 1 5");
        Check.after(": d does> @ ; create x 9 , d : f x ; f", "9");
        // recurse behind does> calls the whole word
        Check.after(": d dup if 1- recurse exit then create does> drop 0 ; 2 d y drop y", "0");
        Check.after(": d create does> >r r@ r> ; d x x", "1 1");
        Check.after(": d create immediate does> drop 6 ; d x : f x ; f", "6");
        Check.due("steps", stepsOfBehaviour(), "9");
    }

    private static String stepsOfBehaviour() {
        Bench bench = new Bench().with(": d create 9 , does> @ ; d x").feed("x");
        // x, @, END
        boolean soon = bench.machine.run(2) == ColonMachine.RUNNING;
        return soon ? bench.outcome(bench.machine.run(1)) : "too soon";
    }

    private static void behaviourFaults() {
        Check.after(": d does> ; d", "error -9");
        Check.after(": d does> ; 5 constant c d", "error -9");
        Check.after(": d does> ; marker m d", "error -9");
        Check.after(": d does> ; create x : y ; d", "error -9");
        Check.after(": d 1 >r does> ; create x d", "error -6");
        Check.after(": d 1 >r does> ; d", "error -6");
        Check.after(": d 1 0 do does> loop ; create x d", "error -6");
        Bench full = new Bench().with(": d does> ; create x d").push(64, 1);
        Check.due("no room for the cell", full.then("x"), "error -3");
        // 39 calls of f and then x: the 40th; one more f, and x is refused and pushes nothing
        String text = "variable n : d does> 1 n +! drop ; create x d"
                + " : f dup if 1- recurse exit then drop x ;";
        Check.due("39 and one", new Bench().with(text).then("38 f n @"), "1");
        Check.due("40 and one", new Bench().with(text).then("39 f n @"), "error -5");
        Check.due("pushes nothing", new Bench().with("variable n : d does> ; create x d"
                + " : f dup if 1- recurse exit then drop x ; : g 39 f ;")
                .then("7 38 ' f catch"), "7 0 -5");
        String deep = ": d does> ; create x d : f dup if 1- recurse exit then x ;";
        Check.due("-5", new Bench().with(deep).push(62, 1).then("39 f"), "error -5");
        Check.due("-3 comes first", new Bench().with(deep).push(63, 1).then("39 f"), "error -3");
    }

    private static void markers() {
        Bench bench = new Bench();
        bench.then(": a 1 ; 5 , marker m : b 2 ; 7 , 8 , m");
        Check.due("words and here", bench.machine.told(3) + " " + bench.machine.told(4), "1 2");
        Check.due("the marker is gone", bench.then("m"), "error -13");
        Check.due("a later word is gone", bench.then("b"), "error -13");
        Check.due("an earlier one is not", bench.then("a"), "1");
        Check.due("no cell changes", bench.then("drop 2 allot 2 @"), "0");
        Check.after("marker m 7 , 8 , m create x 5 , x @ here", "5 2");
        Check.after("7 , 8 , marker m -2 allot m here 1 @ 2 @", "3 7 8");
        Check.after("399 allot marker m -9 allot m here", "400");
        Check.after(": dup 5 ; marker m : dup 6 ; m dup", "5");
        Check.after("marker m m marker m m", "");
        Check.after("marker a marker b a b", "error -13");
        Check.after("marker a marker b b a", "");
        Check.after("marker m : f 1 ; m 0 execute", "error -9");
        Check.after("marker m : f 1 ; m : g 2 ; 0 execute", "2");
        Check.after(": f 1 ; marker m immediate m : g f ; g", "1");
        Check.after("marker m ' m execute m", "error -13");
        Check.after("marker m ' m catch", "0");
        Check.after(": f ' execute ; marker m f m 5", "5");
        Check.after("3 allocate marker m 5 allocate 2drop m 3 allocate", "400 0 408 0");
        // the behaviour is the body of d, which stays
        Check.after(": d create does> drop ' execute 6 ; marker m d x x m", "6");
    }

    private static void markerFaults() {
        Check.after("marker m : f m ; f", "error -9");
        Check.after(": f ' execute ; marker m : g f ; g m", "error -9");
        Check.after("marker m : f m ; : g ['] f catch ; g", "-9");
        Check.after("marker m : d create does> drop m ; d x x", "error -9");
        Check.after("marker m immediate : f m", "error -29");
        Check.after(": e ' execute ; immediate marker m : f e m", "error -29");
        Check.after("marker m : e ' execute ; immediate : f e m", "error -29");
        // the -29 is caught, and f, which drops it, is compiled on
        Check.after(": e ' catch ; immediate marker m : f e m drop 5 ; f", "5");
        Bench bench = new Bench();
        bench.then("marker m : f 1 ; : g m ; 5 , ' g catch");
        Check.due("what throws changes nothing", bench.machine.told(3) + " "
                + bench.machine.told(4) + " " + bench.stack(), "3 2 -9");
    }

    private static void tooManyWords() {
        Bench bench = new Bench();
        bench.then(": mk 79 0 do create loop ; mk " + Bench.times(79, "x "));
        Check.due("80 words", bench.machine.told(3), 80);
        for (String text : new String[] {"create y", "variable y", "5 constant y", "marker y",
            ": y 5 ;", ": y if ;"}) {
            Check.due("80 words, " + text, bench.then(text), "error -8");
            Check.due("still 80", bench.machine.told(3), 80);
            Check.due("here", bench.machine.told(4), 1);
        }
        Check.due("it may be begun", bench.then(": y 5"), "");
        Check.due("but not ended", bench.then(";"), "error -8");
        Check.due("a name comes first", bench.then("create"), "error -16");
        Check.due("the name is gone", bench.then("5 ' constant catch dup 6"), "5 -8 6");
        Bench back = new Bench().with("marker m : mk 78 0 do create loop ; mk "
                + Bench.times(78, "x "));
        Check.due("80 again", back.machine.told(3), 80);
        Check.due("room after a marker", back.then("m create y y"), "1");
        Check.due("one word", back.machine.told(3), 1);
    }
}
