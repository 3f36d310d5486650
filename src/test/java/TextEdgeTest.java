/** Terms: the text, words, names, numbers, what a word is found to be, comments and passages. */
public final class TextEdgeTest {
    private static final Class<?> ARGUMENT = IllegalArgumentException.class;
    private static final Class<?> STATE = IllegalStateException.class;

    public static void main(String[] args) {
        textSize();
        textSizeAndReading();
        bytes();
        wordsAreRead();
        letters();
        names();
        namesThatDiffer();
        namesThatNoneIs();
        digits();
        bases();
        greatNumbers();
        lookedFor();
        comments();
        linesOfComment();
        passages();
        Check.end();
    }

    private static void textSize() {
        Check.of("THE TEXT has at most 500 bytes");
        for (int n = 1; n <= 8; n++) {
            Machine machine = blanks(500 - n);
            Check.due("on it, with " + n, machine.feed(0x2020202020202020L, n), 500);
            Machine beyond = blanks(501 - n);
            int size = n;
            Check.thrown("beyond it, with " + n, STATE,
                    () -> beyond.feed(0x2020202020202020L, size));
            if (n > 1) {
                Check.due("refused", beyond.feed(' ', 1), 502 - n);
            }
        }
        Machine full = blanks(500);
        for (int n = 1; n <= 8; n++) {
            int size = n;
            Check.thrown("full, with " + n, STATE, () -> full.feed(' ', size));
        }
        Check.thrown("of both the argument", ARGUMENT, () -> full.feed(' ', 0));
        Check.thrown("of both the argument", ARGUMENT, () -> full.feed(' ', 9));
    }

    private static Machine blanks(int n) {
        Machine machine = new Machine();
        for (int fed = 0; fed < n; fed += 8) {
            machine.feed(0x2020202020202020L, Math.min(8, n - fed));
        }
        return machine;
    }

    private static void textSizeAndReading() {
        Check.of("those that were read don't count");
        Bench bench = new Bench().feed("1 " + Bench.times(497, " ") + "2");
        Check.thrown("full", STATE, () -> bench.machine.feed('3', 1));
        Check.due("a step", bench.machine.run(1), ColonMachine.RUNNING);
        Check.due("what is gone over is read", bench.machine.feed('3', 1), 2);
        Check.due("both are one word", bench.then(""), "1 23");
        Bench runsOn = new Bench().with(": f begin again ;").feed("f " + Bench.times(498, "x"));
        Check.thrown("full", STATE, () -> runsOn.machine.feed('3', 1));
        runsOn.machine.run(9);
        Check.due("a word and the byte behind it", runsOn.machine.feed('x', 1), 499);
        Check.due("on it again", runsOn.machine.feed('x', 1), 500);
        Check.thrown("beyond it", STATE, () -> runsOn.machine.feed('3', 1));
        Bench error = new Bench().feed("drop " + Bench.times(495, "x"));
        error.machine.run(1);
        Check.due("an error empties it", error.machine.feed('x', 1), 1);
    }

    private static void bytes() {
        Check.of("each 0 .. 255");
        for (int b : new int[] {33, 127, 128, 255}) {
            Bench bench = new Bench().feed(": ");
            bench.machine.feed(b, 1);
            bench.feed(" 7 ; ");
            bench.machine.feed(b, 1);
            Check.due("a word of byte " + b, bench.then(""), "7");
        }
        Machine machine = new Machine();
        // what is above the n lowest bytes does not count
        Check.due("one of eight", machine.feed(0x3232323232323231L, 1), 1);
        machine.run(1);
        Check.due("it alone", machine.pick(0), 1);
        Check.due("eight of eight", machine.feed(0x3837363534333231L, 8), 8);
        machine.run(1);
        Check.due("the lowest first", machine.pick(0), 12345678);
        Check.due("a highest byte of 255", new Bench().with(": a 1 ; ").machine
                .feed(0xff20202020202061L, 8), 8);
    }

    private static void wordsAreRead() {
        Check.of("A WORD is read by going over bytes up to 32, then taking those above 32");
        for (int b : new int[] {0, 1, 9, 10, 13, 31, 32}) {
            String blank = String.valueOf((char) b);
            Check.due("between, " + b, Bench.after("1" + blank + "2"), "1 2");
            Check.due("before and behind, " + b, Bench.after(blank + blank + "1" + blank + blank),
                    "1");
        }
        for (int b : new int[] {33, 64, 126, 127, 128, 160, 255}) {
            Check.due("not between, " + b, Bench.after("1" + (char) b + "2"), "error -13");
        }
        Check.of("up to one that is not (which is gone over, too)");
        Bench bench = new Bench().feed("1  \"2");
        bench.machine.run(1);
        Check.due("one is, and without calls the others", bench.machine.feed(' ', 1), 3);
        Bench called = new Bench().with(": f begin again ;").feed("f   2");
        called.machine.run(1);
        Check.due("one alone is, with calls", called.machine.feed(' ', 1), 4);
        Check.said(".\"  a\"", " a");
        Check.said(".\"\0a\"", "a");
    }

    private static void letters() {
        Check.of("A .. Z become a .. z");
        Check.after(": ABYZ 1 ; abyz : aByZ 2 ; ABYZ", "1 2");
        Check.after(": @ 1 ; ` ", "error -13");
        Check.after(": [ 1 ; { ", "error -13");
        Check.after(": \u00c4 1 ; \u00e4", "error -13");
        Check.after("5 DUP 16 BASE ! FF Z", "error -13");
        Check.after("5 DUP 16 BASE ! FF", "5 5 255");
        Check.after(": f IF 1 ELSE 2 THEN ; 0 f", "2");
        Check.said(".\" AbZ\"", "AbZ");
    }

    private static void names() {
        Check.of("NAMES have 1 .. 8 bytes");
        for (String definer : new String[] {"create", "variable", "5 constant", "marker"}) {
            Check.after(definer + " a ' a", "0");
            Check.after(definer + " abcdefgh ' abcdefgh", "0");
            Check.after(definer + " abcdefghi", "error -16");
            Check.after(definer, "error -16");
            Check.after(definer + "  \n ", "error -16");
        }
        Check.after(": a 7 ; a", "7");
        Check.after(": abcdefgh 7 ; abcdefgh", "7");
        Check.after(": abcdefghi 7 ;", "error -16");
        Check.after(":", "error -16");
        Check.after(":  \n ", "error -16");
        Bench refused = new Bench();
        refused.then(": abcdefghi");
        Check.due("it is not compiling", refused.told(3, 7), "0 0");
        refused.then("create abcdefghi");
        Check.due("nothing is made", refused.told(3, 4), "0 1");
        // names of 8 bytes that differ in one, and in their length
        Check.after(": abcdefgh 1 ; : abcdefgi 2 ; : bbcdefgh 3 ; : abcdefg 4 ;"
                + " abcdefgh abcdefgi bbcdefgh abcdefg", "1 2 3 4");
        Check.after(": aa 1 ; : a 2 ; aa a", "1 2");
    }

    private static void namesThatDiffer() {
        String name = "aaaaaaaa";
        for (int place = 0; place < 8; place++) {
            for (int bit = 1; bit < 256; bit *= 2) {
                char other = (char) ('a' ^ bit);
                // A is a, and ! is the least byte of a word
                if (other != 'A' && other > 32) {
                    String another = name.substring(0, place) + other + name.substring(place + 1);
                    Check.after(": " + name + " 1 ; : " + another + " 2 ; " + name + " " + another,
                            "1 2");
                }
            }
        }
        Check.after(": a\u00e1 1 ; : `\u00e1 2 ; a\u00e1 `\u00e1", "1 2");
        String high = Bench.times(8, "\u00ff");
        Check.after(": " + high + " 1 ; : \u00ff 2 ; " + high + " \u00ff", "1 2");
    }

    private static void namesThatNoneIs() {
        Check.of("-16 no name (none is left, or it is too long)");
        Check.after(": abcdefgh 1 ; abcdefghi", "error -13");
        Check.after(": bcdefghi 1 ; abcdefghi", "error -13");
        Check.after("'", "error -16");
        Check.after(": f [']", "error -16");
        Check.after("' create catch abcdefghi 5", "-16 5");
        Check.after("' create catch", "-16");
        Check.of("' reads a word");
        Check.after("' immediate", "1070");
        Check.after(": f ['] immediate ; f", "1070");
        Check.after("' abcdefghi", "error -13");
    }

    private static void digits() {
        Check.of("A NUMBER: perhaps -, then one or more digits, each below the BASE");
        Check.after("0 9 -0 -9 00012", "0 9 0 -9 12");
        Check.after("1 2 -", "-1");
        Check.after("--1", "error -13");
        Check.after("+1", "error -13");
        Check.after("1-1", "error -13");
        for (String between : new String[] {"/", ":", "`", "{", "\u00b9", "a"}) {
            Check.after("1" + between, "error -13");
        }
        for (int base = 2; base <= 36; base++) {
            // behind a 0, because i and j alone are primitives
            String greatest = "0" + Integer.toString(base - 1, base);
            Check.after(base + " base ! " + greatest, Integer.toString(base - 1));
            Check.after(base + " base ! -" + greatest.toUpperCase() + "0",
                    Integer.toString(-(base - 1) * base));
            if (base < 36) {
                Check.after(base + " base ! 0" + Integer.toString(base, 36), "error -13");
                Check.after(base + " base ! 1" + Integer.toString(base, 36), "error -13");
            }
        }
        Check.after("36 base ! {", "error -13");
        Check.after("16 base ! abc -abc", "2748 -2748");
    }

    private static void bases() {
        Check.of("which must be 2 .. 36 (else nothing is a number)");
        Check.after("2 base ! 1", "1");
        Check.after("36 base ! 1", "1");
        for (String base : new String[] {"1", "0", "-1", "-10", "37", "2147483647",
            "-2147483648"}) {
            Check.after(base + " base ! 0", "error -13");
            Check.after(base + " base ! 1", "error -13");
            Check.after(base + " base ! base @", base);
            Check.after(": f 5 ; " + base + " base ! f", "5");
            Check.after(": five 5 ; " + base + " base ! : f 1 ;", "error -13");
        }
        Bench bench = new Bench().with("1 base !");
        Check.due("until it is one again", bench.push(1, 10).then("base ! 7"), "7");
    }

    private static void greatNumbers() {
        Check.of("of one too great the lowest 32 bits count");
        Check.after("2147483647 2147483648 2147483649", "2147483647 -2147483648 -2147483647");
        Check.after("-2147483647 -2147483648 -2147483649", "-2147483647 -2147483648 2147483647");
        Check.after("4294967295 4294967296 4294967297", "-1 0 1");
        Check.after("-4294967295 -4294967296 -4294967297", "1 0 -1");
        Check.after("18446744073709551615 18446744073709551616 18446744073709551621", "-1 0 5");
        Check.after("16 base ! 7fffffff 80000000 ffffffff 100000000 1234567890abcdef",
                "2147483647 -2147483648 -1 0 -1867788817");
        Check.after("2 base ! " + Bench.times(32, "1") + " 1" + Bench.times(31, "0") + " 1"
                + Bench.times(32, "0"), "-1 -2147483648 0");
        Check.after("36 base ! zzzzzz zzzzzzz", "-2118184961 1054752767");
        Check.after("1" + Bench.times(99, "0"), "0");
        Check.after(Bench.times(400, "0") + "7", "7");
        Check.after(": f 4294967295 -2147483649 ; f", "-1 2147483647");
    }

    private static void lookedFor() {
        Check.of("looked for among those of its own, the latest first, then specials, primitives,"
                + " numbers; -13 if it is nothing");
        Check.after(": a 1 ; : a 2 ; : b 3 ; a b", "2 3");
        Check.after(": if 1 ; if", "1");
        Check.after(": dup 1 ; dup", "1");
        Check.after(": 7 1 ; 7 07", "1 7");
        Check.after("36 base ! dup", "error -4");
        Check.after("36 base ! if", "error -14");
        Check.after("36 base ! dups", Integer.toString(Integer.parseInt("dups", 36)));
        Check.after(": ; 1 ; ;", "1");
        Check.after("nothing", "error -13");
        Check.after(": f nothing", "error -13");
        Check.after(": f f ;", "error -13");
        Check.after(": f 1 ; : f f 1+ ; f", "2");
        Check.after(": f 1 ; ' f : f 2 ; ' f", "0 1");
        Check.after(": f 1 ; marker m : f 2 ; f m f", "2 1");
    }

    private static void comments() {
        Check.of("( goes over all up to ), with it, or all");
        Check.after("( ) 5", "5");
        Check.after("( a b \n c \\ d )5 6", "5 6");
        Check.after("( a ( b ) 5", "5");
        Check.after("1 ( a 5 6", "1");
        Check.after("1 (", "1");
        Check.after("(a ) 5", "error -13");
        Check.after(")", "error -13");
        Check.after(": f 1 ( 2 ) 3 ; f", "1 3");
        Bench rest = new Bench().with("1 ( 2");
        Check.due("all that is there", rest.then("3 )"), "error -13");
        Bench bench = new Bench().with("(").feed(" 4");
        Check.due("what comes later is none of it", bench.then(""), "4");
        Check.due("a full text", new Bench().with("( " + Bench.times(497, "x") + ")").then("5"),
                "5");
    }

    private static void linesOfComment() {
        Check.of("\\ up to byte 10, with it, or all");
        Check.after("1 \\ 2 ) 3\n4", "1 4");
        Check.after("1 \\ 2\r3\n4", "1 4");
        Check.after("1 \\ \n4", "1 4");
        Check.after("1 \\ 2 3", "1");
        Check.after("1 \\", "1");
        Check.after("1 \\2\n", "error -13");
        Check.after(": f 1 \\ 2\n 3 ; f", "1 3");
        Bench rest = new Bench().with("1 \\ 2");
        Check.due("all that is there", rest.then("3"), "1 3");
        // the byte behind the word is gone over with it, whatever it is
        Check.after("1 \\\n2\n3", "1 3");
    }

    private static void passages() {
        Check.of(".\" and a blank, then all up to another \"");
        Check.said(".\" \"", "");
        Check.said(".\" a\"", "a");
        Check.said(".\" \\ ( ) \n\0\u00ffA\"", "\\ ( ) \n\0\u00ffA");
        Check.said(".\" a\"65 emit", "aA");
        Check.said(".\" a\" .\" b\"", "ab");
        Check.said(": f .\" a\" .\" \" .\" b\" ; f f", "abab");
        Check.of("-16, if there is no other \"");
        Check.after(".\"", "error -16");
        Check.after(".\" ", "error -16");
        Check.after(".\" abc", "error -16");
        Check.after(": f .\" abc ;", "error -16");
        Check.said(".\" abc", "");
        Check.of("while compiling one item that says it, else it is said at once");
        Check.said(": f .\" a\" ;", "");
        Check.said(": f .\" a\" ; .\" b\" f", "ba");
        Bench bench = new Bench().feed(".\" abc\"");
        Check.due("one step", bench.machine.run(1), ColonMachine.DONE);
        Bench item = new Bench().with(": f .\" abcdefghijkl\" ;").feed("f");
        Check.due("the call and one item", item.machine.run(2), ColonMachine.RUNNING);
        Check.due("all of it", item.machine.out(), 12);
        Check.due("a long one", Bench.said(".\" " + Bench.times(496, "x") + "\""),
                Bench.times(496, "x"));
    }
}
