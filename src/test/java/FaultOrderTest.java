/** Promise 3: of several faults the one that the document's order has first. */
public final class FaultOrderTest {
    private static final String FULL_RETURNS = Bench.times(64, "dup >r ");

    public static void main(String[] args) {
        onlyInBodies();
        stacks();
        names();
        rooms();
        saying();
        tokens();
        changesNothing();
        Check.end();
    }

    private static void onlyInBodies() {
        Check.after(">r", "error -14");
        Check.due("-14, then -3", new Bench().push(64, 1).then("r>"), "error -14");
        Check.after("[']", "error -14");
        Check.after(": f :", "error -29");
    }

    private static void stacks() {
        Check.after(": f do unloop +loop ; 1 0 f", "error -4");
        Check.after(": f do unloop +loop ; 5 1 0 f", "error -6");
        Check.after(": f " + FULL_RETURNS + "drop >r ; 1 f", "error -4");
        Check.after(": f " + FULL_RETURNS + "do loop ; 1 f", "error -4");
        for (String word : new String[] {"r>", "r@", "i", "j"}) {
            Check.due("-6, then -3: " + word, new Bench().with(": f " + word + " ;").push(64, 1)
                    .then("f"), "error -6");
        }
        Bench full = new Bench().with(": f >r r@ dup ;").push(64, 1);
        Check.due("-3", full.then("f"), "error -3");
        Check.after("0 /", "error -4");
        Check.after("400 !", "error -4");
        Check.after("400 resize", "error -4");
    }

    private static void names() {
        Check.due("-3, then -16", new Bench().push(64, 1).then("'"), "error -3");
        Check.due("-3, then -13", new Bench().push(64, 1).then("' nonesuch"), "error -3");
        Check.after("constant", "error -4");
        String items = ": f " + Bench.times(150, "1 ");
        Check.due("-13, then -8", new Bench().with(items).then("nonesuch"), "error -13");
        Check.due("-13, then -8, of [']", new Bench().with(items).then("['] if"), "error -13");
        Check.due("-16, then -8", new Bench().with(items).then("[']"), "error -16");
        Check.due("-16, then -8, of a passage", new Bench().with(items).then(".\" a"),
                "error -16");
    }

    private static void rooms() {
        Bench words = new Bench().with(": mk 80 0 do create loop ; mk " + Bench.times(79, "x ")
                + "toolongname");
        Check.due("-16 of the 81st", words.machine.code(), -16);
        Check.due("80", words.machine.told(3), 80);
        Check.due("-8, then -22", words.then(": f if ;"), "error -8");
        Check.due("-16, then -8", words.then("variable"), "error -16");
        Check.after("399 allot variable", "error -16");
        for (String word : new String[] {"else", "until", "loop", "leave"}) {
            Check.due("-8, then -22: " + word, new Bench().with(": f " + Bench.times(150, "1 "))
                    .then(word), "error -8");
        }
    }

    private static void saying() {
        Bench full = new Bench().with(": f 800 0 do space loop ; f");
        Check.due("-17", full.then("5 ."), "error -17");
        Check.due("-4, then -17", full.then("emit"), "error -4");
        Check.due("-40, then -17", full.then("5 0 base ! ."), "error -40");
        Check.due("-4, then -40", full.then("."), "error -4");
        Check.due("-16, then -17", full.then(".\" a"), "error -16");
    }

    private static void tokens() {
        // f calls itself to the 40th call, where the token waits below the count
        String deep = ": f dup if 1- recurse exit then drop catch ; ";
        Check.due("-9, then -5", new Bench().with(deep).then("5 39 f"), "error -9");
        Check.due("-4, then -5", new Bench().with(deep).then("39 f"), "error -4");
        Check.due("-5", new Bench().with(deep).then("1001 39 f"), "error -5");
        Check.due("39 calls", new Bench().with(deep).then("1009 38 f"), "0 0");
        // the token is looked at before what it would do
        Check.after("1040 execute", "error -14");
        Check.after("1013 execute", "error -4");
    }

    private static void changesNothing() {
        Check.after("7 0 ' / catch", "7 0 -10");
        Check.after("7 8 0 ' */ catch", "7 8 0 -10");
        Check.after("7 400 ' ! catch", "7 400 -9");
        Check.after("400 ' @ catch", "400 -9");
        Check.after("400 ' allot catch here", "400 -8 1");
        Check.after("5 7 ' pick catch", "5 7 -4");
        Bench comma = new Bench().with("399 allot");
        Check.due(",", comma.then("7 ' , catch here"), "7 -8 400");
        Bench variable = new Bench().with("399 allot");
        Check.due("variable", variable.then("' variable catch x"), "-8");
        Check.due("no word is made", variable.machine.told(3), 0);
        Check.after(": f 1 >r ; : g ['] f catch ; g", "-6");
        // the body goes on behind what threw nothing, and the loop's cells are as they were
        Check.after(": f 2 0 do i ['] r> catch loop ; f", "0 -14 1 -14");
    }
}
