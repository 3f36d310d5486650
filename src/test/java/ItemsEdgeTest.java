/** Terms: executing, and the items whose sentences say that a call begins, ends or goes on. */
public final class ItemsEdgeTest {
    public static void main(String[] args) {
        executing();
        literals();
        callsOfEarlierWords();
        callsOfEachKind();
        branchesGoOn();
        callsEnd();
        Check.end();
    }

    private static void executing() {
        Check.of("EXECUTING a primitive does it. A colon word's body is called.");
        Check.after("3 4 +", "7");
        Check.after("3 4 1012 execute", "7");
        Check.after(": f + ; 3 4 f", "7");
        Bench bench = new Bench().with(": g 5 ; : f g 6 ;").feed("f");
        bench.machine.run(1);
        Check.due("the body is called, nothing of it is done", bench.told(0, 2), "0 1");
        bench.machine.run(1);
        Check.due("a body within a body", bench.told(0, 2), "0 2");
        bench.machine.run(2);
        Check.due("it ends, and the other goes on", bench.told(0, 2), "1 1");
        Check.due("to its end", bench.outcome(bench.machine.run(2)), "5 6");
    }

    private static void literals() {
        Check.of("LITERAL pushes");
        Check.after(": f 7 -7 0 2147483647 -2147483648 ; f",
                "7 -7 0 2147483647 -2147483648");
        Check.due("a 64th cell", new Bench().with(": f 7 ;").push(63, 1).with("f").told(0), "64");
        Check.due("a 65th cell", new Bench().with(": f 7 ;").push(64, 1).then("f"), "error -3");
        Check.due("a caught 65th cell", new Bench().with(": f 7 8 9 ;").push(62, 1)
                .with("' f catch").told(0, 2), "63 0");
        Check.after(": f 10 ; 2 base ! f", "10");
    }

    private static void callsOfEarlierWords() {
        Check.of("CALL executes that word (which is always there: what a marker leaves calls"
                + " earlier words alone)");
        Check.after(": a 1 ; : b a ; : a 2 ; b a", "1 2");
        Check.after(": a 1 ; : b a ; marker m : a 2 ; : c a b ; c m b a", "2 1 1 1");
        Check.after(": a 1 ; : b a ; marker m m : x 7 ; b", "1");
        Check.after("create x 7 , : f x @ ; marker m 8 , m 9 , f 2 @", "7 9");
        Check.after(": d create , does> @ ; 5 d x : f x ; marker m 6 d y m f", "5");
        Check.after(": a 1 ; : a a 2 ; a", "1 2");
    }

    private static void callsOfEachKind() {
        Check.of("a CALL of a word of its own");
        Check.after("5 constant c : f c ; 6 constant c f c", "5 6");
        Check.after("variable x : f x ; f f @", "1 0");
        Check.after(": e ' execute ; : f e ; marker m f m 7", "7");
        // what a word does is looked at when the item runs: it had no behaviour when compiled
        Check.after(": d does> drop 5 ; immediate create x : f x d ; f", "5");
        Check.after(": d create does> drop 5 ; : e does> drop 6 ; immediate d x : f x e ; f",
                "6");
    }

    private static void branchesGoOn() {
        Check.of("BRANCH goes on elsewhere");
        Check.after(": f if 1 else 2 then 3 ; 1 f 0 f", "1 3 2 3");
        Check.after(": f if else then 3 ; 1 f 0 f", "3 3");
        Check.after(": f begin dup 3 = if exit then 1+ again 9 ; 0 f", "3");
        Check.after(": f begin dup 3 < while 1+ repeat 9 ; 0 f", "3 9");
        Check.after(": f if if 1 else 2 then else if 3 else 4 then then 9 ;"
                + " 1 1 f 0 1 f 1 0 f 0 0 f", "1 9 2 9 3 9 4 9");
        Check.after(": f if 1 exit else 2 then 3 ; 1 f 0 f", "1 2 3");
    }

    private static void callsEnd() {
        Check.of("END, exit: the call ends");
        Check.after(": g 1 ; : f g 2 g ; f 3", "1 2 1 3");
        Check.after(": g 1 exit 9 ; : f g 2 exit 9 ; f 3", "1 2 3");
        Check.after(": g exit ; : f ['] g catch 5 ; f", "0 5");
        Check.after(": d create does> exit 9 ; d x : f x 5 ; f", "1 5");
        for (String end : new String[] {"", "exit"}) {
            Check.after(": f 1 >r " + end + " ; f", "error -6");
            Check.after(": f 1 >r " + end + " ; : g 7 8 ['] f catch ; g", "7 8 -6");
            Check.after(": f " + end + " ; : g 1 >r f r> ; g", "1");
        }
        Bench bench = new Bench().with(": f 1 >r ; : g 2 >r ['] f catch r> ;").feed("g");
        Check.due("what is thrown there leaves the catcher's own",
                bench.outcome(bench.machine.run(100)), "-6 2");
        Check.due("and no call", bench.told(1, 2), "0 0");
    }
}
