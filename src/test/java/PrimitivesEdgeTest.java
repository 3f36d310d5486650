/** Terms: the primitives 0 to 60 where their cells are least, greatest, 0, too few, too many. */
public final class PrimitivesEdgeTest {
    private static final String LEAST = "-2147483648";
    private static final String MOST = "2147483647";

    public static void main(String[] args) {
        shuffles();
        maybeDup();
        pick();
        depth();
        divides();
        dividesByZero();
        multipliesAndDivides();
        ofOne();
        shifts();
        compares();
        memory();
        comma();
        allot();
        says();
        saysInBases();
        emits();
        fullOut();
        allocates();
        frees();
        resizesInPlace();
        resizesElsewhere();
        resizesNot();
        Check.end();
    }

    private static void shuffles() {
        Check.of("dup drop swap over rot nip tuck 2dup 2drop: with just their cells");
        Check.after("1 dup", "1 1");
        Check.after("1 drop", "");
        Check.after("1 2 swap", "2 1");
        Check.after("1 2 over", "1 2 1");
        Check.after("1 2 3 rot", "2 3 1");
        Check.after("1 2 nip", "2");
        Check.after("1 2 tuck", "2 1 2");
        Check.after("1 2 2dup", "1 2 1 2");
        Check.after("1 2 2drop", "");
        Check.of("and with cells below them, which stay");
        Check.after("8 9 1 2 swap", "8 9 2 1");
        Check.after("8 9 1 2 3 rot", "8 9 2 3 1");
        Check.after("8 9 1 2 nip", "8 9 2");
        Check.after("8 9 1 2 tuck", "8 9 2 1 2");
        Check.after("8 9 1 2 2drop", "8 9");
        Check.due("tuck to 64", new Bench().push(63, 1).with("tuck").told(0), "64");
        Check.due("2dup to 64", new Bench().push(62, 1).with("2dup").told(0), "64");
        Check.due("2dup beyond it by one", new Bench().push(63, 1).then("2dup"), "error -3");
    }

    private static void maybeDup() {
        Check.of("?dup (a - a a, or 0 - 0)");
        Check.after("0 ?dup", "0");
        Check.after("1 ?dup -1 ?dup", "1 1 -1 -1");
        Check.after(LEAST + " ?dup", LEAST + " " + LEAST);
        Check.due("0 of 64", new Bench().push(64, 0).with("?dup").told(0), "64");
        Check.due("not 0 of 64", new Bench().push(64, 1).then("?dup"), "error -3");
        Check.due("not 0 of 63", new Bench().push(63, 1).with("?dup").told(0), "64");
        Check.after("?dup", "error -4");
    }

    private static void pick() {
        Check.of("pick (n - the n-th below it, from 0 on; -4)");
        Check.after("7 8 9 0 pick", "7 8 9 9");
        Check.after("7 8 9 1 pick", "7 8 9 8");
        Check.after("7 8 9 2 pick", "7 8 9 7");
        Check.after("7 8 9 3 pick", "error -4");
        Check.after("7 8 9 -1 pick", "error -4");
        Check.after("7 " + MOST + " pick", "error -4");
        Check.after("7 " + LEAST + " pick", "error -4");
        Check.after("0 pick", "error -4");
        Check.after("pick", "error -4");
        Check.due("of 64 cells", new Bench().push(1, 9).push(62, 1).push(1, 62).with("pick")
                .machine.pick(0), 9);
        Check.due("of 64 cells, beyond them", new Bench().push(63, 1).push(1, 63).then("pick"),
                "error -4");
    }

    private static void depth() {
        Check.of("depth (- cells)");
        Check.after("depth", "0");
        Check.after("5 depth", "5 1");
        Check.due("63", new Bench().push(63, 1).with("depth").machine.pick(0), 63);
        Check.due("64", new Bench().push(64, 1).then("depth"), "error -3");
    }

    private static void divides() {
        Check.of("/ mod (downward, running over: the least int by -1 is itself; the rest has b's"
                + " sign; -10)");
        int[] cells = {Integer.MIN_VALUE, Integer.MIN_VALUE + 1, -8, -7, -6, -2, -1, 0, 1, 2, 6, 7,
            8, Integer.MAX_VALUE - 1, Integer.MAX_VALUE};
        for (int a : cells) {
            for (int b : cells) {
                if (b != 0) {
                    long quotient = downward(a, b);
                    String over = a + " " + b;
                    String rest = Long.toString(a - b * quotient);
                    String cell = Integer.toString((int) quotient);
                    Check.after(over + " /", cell);
                    Check.after(over + " mod", rest);
                    Check.after(over + " /mod", rest + " " + cell);
                }
            }
        }
        Check.after(LEAST + " -1 /", LEAST);
        Check.after(LEAST + " -1 mod", "0");
        Check.after(LEAST + " -1 /mod", "0 " + LEAST);
    }

    /** By the greatest q for which b q is not beyond a, seen from b's sign. */
    private static long downward(long a, long b) {
        long towardsZero = a / b;
        boolean lower = a % b != 0 && (a < 0) != (b < 0);
        return lower ? towardsZero - 1 : towardsZero;
    }

    private static void dividesByZero() {
        for (String a : new String[] {"0", "1", "-1", LEAST}) {
            Check.after(a + " 0 /", "error -10");
            Check.after(a + " 0 mod", "error -10");
            Check.after(a + " 0 /mod", "error -10");
            Check.after(a + " 1 0 */", "error -10");
        }
        Check.after("0 1 / 0 1 mod 0 -1 /", "0 0 0");
    }

    private static void multipliesAndDivides() {
        Check.of("*/ (a b c - a b / c, downward, in 64 bits, its lowest 32; -10)");
        Check.after("7 1 2 */ -7 1 2 */ 7 -1 2 */ -7 -1 2 */ 7 1 -2 */", "3 -4 -4 3 -4");
        Check.after("2147483647 2147483647 2147483647 */", "2147483647");
        Check.after(LEAST + " " + LEAST + " " + LEAST + " */", LEAST);
        Check.after(LEAST + " " + LEAST + " 1 */", "0");
        Check.after(LEAST + " " + LEAST + " -1 */", "0");
        Check.after(LEAST + " " + LEAST + " 3 */", Integer.toString((int) ((1L << 62) / 3)));
        Check.after(MOST + " " + MOST + " 1 */", "1");
        Check.after(MOST + " " + MOST + " 2 */", Integer.toString((int)
                (((long) Integer.MAX_VALUE * Integer.MAX_VALUE) / 2)));
        Check.after(LEAST + " 1 -1 */", LEAST);
        Check.after(LEAST + " " + MOST + " " + MOST + " */", LEAST);
        Check.after("3000000 3000 1000 */", "9000000");
        Check.after("0 5 -3 */ 1 1 -2147483648 */", "0 -1");
        Check.after("-1 1 2147483647 */", "-1");
    }

    private static void ofOne() {
        Check.of("negate abs (a - c; of the least int itself)");
        Check.after("0 negate 1 negate -1 negate 2147483647 negate", "0 -1 1 -2147483647");
        Check.after(LEAST + " negate " + LEAST + " abs", LEAST + " " + LEAST);
        Check.after("-2147483647 abs 0 abs -1 abs 1 abs", "2147483647 0 1 1");
        Check.of("min max");
        Check.after(LEAST + " " + MOST + " min " + LEAST + " " + MOST + " max",
                LEAST + " " + MOST);
        Check.after("5 5 min 5 5 max -1 0 min -1 0 max 0 -1 min 0 -1 max", "5 5 -1 0 -1 0");
        Check.of("2/ (downward)");
        Check.after("1 2/ -1 2/ 0 2/ 3 2/ -3 2/ -2 2/", "0 -1 0 1 -2 -1");
        Check.after(LEAST + " 2/ " + MOST + " 2/", "-1073741824 1073741823");
        Check.of("and or xor invert");
        Check.after("-1 5 and 0 5 and " + LEAST + " " + MOST + " or -1 -1 xor", "5 0 -1 0");
        Check.after("0 invert -1 invert " + LEAST + " invert", "-1 0 " + MOST);
    }

    private static void shifts() {
        Check.of("lshift rshift (a n - c: 0, if n without sign is above 31; zeros come in)");
        Check.after("-1 0 lshift -1 1 lshift -1 30 lshift -1 31 lshift",
                "-1 -2 -1073741824 -2147483648");
        Check.after("-1 0 rshift -1 1 rshift -1 30 rshift -1 31 rshift", "-1 2147483647 3 1");
        for (String n : new String[] {"32", "33", "63", "64", MOST, LEAST, "-1", "-31", "-32"}) {
            Check.after("-1 " + n + " lshift", "0");
            Check.after("-1 " + n + " rshift", "0");
        }
        Check.after(LEAST + " 31 rshift 1 31 lshift 2 31 lshift", "1 " + LEAST + " 0");
    }

    private static void compares() {
        Check.of("= <> < > u< (a b - -1 or 0)");
        String[] ascending = {LEAST, "-1", "0", "1", MOST};
        String[] unsigned = {"0", "1", MOST, LEAST, "-1"};
        for (int i = 0; i < 5; i++) {
            for (int k = 0; k < 5; k++) {
                String pair = ascending[i] + " " + ascending[k];
                Check.after(pair + " =", i == k ? "-1" : "0");
                Check.after(pair + " <>", i != k ? "-1" : "0");
                Check.after(pair + " <", i < k ? "-1" : "0");
                Check.after(pair + " >", i > k ? "-1" : "0");
                Check.after(unsigned[i] + " " + unsigned[k] + " u<", i < k ? "-1" : "0");
            }
            Check.after(ascending[i] + " 0=", i == 2 ? "-1" : "0");
            Check.after(ascending[i] + " 0<", i < 2 ? "-1" : "0");
        }
    }

    private static void memory() {
        Check.of("@ (cell - a) ! (a cell -) +! (a cell - ; added to it)");
        Check.after("7 , 8 , 1 @ 2 @", "7 8");
        Check.after("7 , 8 , 9 2 ! 1 @ 2 @", "7 9");
        Check.after("7 , 8 , 9 1 +! 1 @ 2 @", "16 8");
        Check.after("7 , 2 @", "error -9");
        Check.after("7 , 5 2 !", "error -9");
        Check.after("7 , 5 2 +!", "error -9");
        Check.after("399 allot 5 399 ! 399 @ 6 399 +! 399 @", "5 11");
        Check.after("399 allot 5 400 !", "error -9");
        Check.after("600 allocate 2drop 5 400 ! 6 999 ! 400 @ 999 @", "5 6");
        Check.after("600 allocate 2drop 399 @", "error -9");
        Check.after("600 allocate 2drop 1000 @", "error -9");
        Check.after("-1 @", "error -9");
    }

    private static void comma() {
        Check.of(", (a - ; at HERE, which is one more)");
        Check.after("5 , here 1 @", "2 5");
        Check.after("398 allot 5 , here 399 @", "400 5");
        Check.after("399 allot 5 ,", "error -8");
        Check.after("5 , -1 allot 6 , 1 @", "6");
    }

    private static void allot() {
        Check.of("allot (n - ; HERE is n more; from 1 to 400, or -8; new cells are 0)");
        Check.after("0 allot here", "1");
        Check.after("-1 allot", "error -8");
        Check.after("399 allot here", "400");
        Check.after("400 allot", "error -8");
        Check.after("399 allot 0 allot here", "400");
        Check.after("399 allot 1 allot", "error -8");
        Check.after("399 allot -399 allot here", "1");
        Check.after("399 allot -400 allot", "error -8");
        Check.after("5 allot -6 allot", "error -8");
        for (String n : new String[] {MOST, LEAST, "2147483646", "-2147483647"}) {
            Check.after(n + " allot", "error -8");
            Check.after("9 allot " + n + " allot", "error -8");
        }
        Check.after("7 , 8 , -2 allot 1 allot 1 @", "0");
        Check.after("7 , 8 , 9 , -2 allot 2 allot 1 @ 2 @ 3 @", "7 0 0");
        Check.after("7 , 8 , -1 allot 0 allot 1 @", "7");
        Check.after("398 allot 1 allot 5 399 ! -1 allot 1 allot 399 @", "0");
    }

    private static void says() {
        Check.of(". (a - ; in the BASE, digits 0 .. 9, a .. z, with - , and a blank) u. (without"
                + " sign)");
        Check.said("0 . 9 . 10 . -1 . -10 .", "0 9 10 -1 -10 ");
        Check.said(MOST + " . " + LEAST + " .", MOST + " " + LEAST + " ");
        Check.said("0 u. " + MOST + " u. " + LEAST + " u. -1 u.",
                "0 2147483647 2147483648 4294967295 ");
        Check.after("5 . 6 u.", "");
    }

    private static void saysInBases() {
        Check.of("-40 a BASE that is none (of . and u.)");
        for (int base : new int[] {2, 3, 9, 10, 11, 16, 35, 36}) {
            for (int a : new int[] {0, 1, -1, base - 1, base, -base, base * base - 1,
                Integer.MAX_VALUE, Integer.MIN_VALUE}) {
                Check.said(a + " " + base + " base ! .", Integer.toString(a, base) + " ");
                Check.said(a + " " + base + " base ! u.",
                        Long.toString(a & 0xffffffffL, base) + " ");
            }
        }
        for (String base : new String[] {"1", "0", "-1", "37", "-10", MOST, LEAST}) {
            Check.after("5 " + base + " base ! .", "error -40");
            Check.after("5 " + base + " base ! u.", "error -40");
            Check.said("65 " + base + " base ! emit cr space", "A\n ");
        }
    }

    private static void emits() {
        Check.of("emit (a - ; its lowest byte) cr (byte 10) space (32)");
        Check.said("0 emit 255 emit 256 emit 321 emit -1 emit -256 emit",
                "\0\u00ff\0A\u00ff\0");
        Check.said("cr space", "\n ");
    }

    private static void fullOut() {
        Check.of("-17 the out would have more than 800 bytes");
        Check.due("799", out(798, "cr"), "799");
        Check.due("800", out(799, "cr"), "800");
        Check.due("801", out(800, "cr"), "800 error -17");
        Check.due("space", out(799, "space") + ", " + out(800, "space"), "800, 800 error -17");
        Check.due("emit", out(799, "5 emit") + ", " + out(800, "5 emit"), "800, 800 error -17");
        Check.due(".", out(798, "5 .") + ", " + out(799, "5 ."), "800, 799 error -17");
        Check.due(". of two", out(797, "-5 .") + ", " + out(798, "-5 ."), "800, 798 error -17");
        Check.due("u.", out(789, "-1 u.") + ", " + out(790, "-1 u."), "800, 790 error -17");
        Check.due(". of 33", out(766, LEAST + " 2 base ! .") + ", "
                + out(767, LEAST + " 2 base ! ."), "800, 767 error -17");
        Check.due("a passage", out(797, ".\" abc\"") + ", " + out(798, ".\" abc\""),
                "800, 798 error -17");
        Check.due("an empty one", out(800, ".\" \""), "800");
        Check.due("an item", out(797, ": g .\" abc\" ; g") + ", "
                + out(798, ": g .\" abc\" ; g"), "800, 798 error -17");
    }

    private static String out(int n, String text) {
        Bench bench = new Bench().with(": f " + n + " 0 do space loop ; f");
        String outcome = bench.then(text);
        return bench.machine.out() + (outcome.isEmpty() ? "" : " " + outcome);
    }

    private static void allocates() {
        Check.of("allocate (n - cell 0: a block at the lowest place of the heap with n free cells,"
                + " which are 0 then; or 0 -59: there is none, or n is below 1)");
        Check.after("1 allocate 1 allocate", "400 0 401 0");
        Check.after("0 allocate -1 allocate " + LEAST + " allocate", "0 -59 0 -59 0 -59");
        Check.after("601 allocate " + MOST + " allocate", "0 -59 0 -59");
        Check.after("600 allocate 1 allocate", "400 0 0 -59");
        Check.after("599 allocate 2 allocate 1 allocate", "400 0 0 -59 999 0");
        // gaps of two and of three cells
        String gaps = "2 allocate 2drop 1 allocate 2drop 3 allocate 2drop 1 allocate 2drop"
                + " 400 free 403 free 2drop ";
        Check.after(gaps + "1 allocate", "400 0");
        Check.after(gaps + "2 allocate 2 allocate", "400 0 403 0");
        Check.after(gaps + "3 allocate", "403 0");
        Check.after(gaps + "4 allocate", "407 0");
        Check.after(gaps + "1 allocate 1 allocate 1 allocate 1 allocate 1 allocate 1 allocate",
                "400 0 401 0 403 0 404 0 405 0 407 0");
        Check.after("2 allocate 2drop 7 400 ! 8 401 ! 400 free drop 2 allocate 400 @ 401 @",
                "400 0 0 0");
        Check.due("blocks and cells", new Bench().with("0 allocate 5 allocate 601 allocate")
                .told(5, 6), "1 5");
    }

    private static void frees() {
        Check.of("free (cell - 0; or -60: no block begins there)");
        Check.after("3 allocate 2drop 400 free", "0");
        Check.after("3 allocate 2drop 401 free 402 free 403 free 399 free", "-60 -60 -60 -60");
        Check.after("3 allocate 2drop 400 free 400 free", "0 -60");
        Check.after("0 free 1 free -1 free 999 free 1000 free", "-60 -60 -60 -60 -60");
        Check.after(LEAST + " free " + MOST + " free", "-60 -60");
        Check.after("599 allocate 2drop 1 allocate 2drop 999 free 1 allocate", "0 999 0");
        // of two blocks side by side only the one goes
        Bench bench = new Bench().with("2 allocate 2drop 2 allocate 2drop 400 free drop");
        Check.due("the other stays", bench.told(5, 6) + bench.peeked(401) + bench.peeked(402),
                "1 2none0");
        bench.then("402 free drop");
        Check.due("none", bench.told(5, 6), "0 0");
    }

    private static void resizesInPlace() {
        Check.of("resize (cell n - cell 0: it has n cells, where it is, if there is room");
        Check.after("3 allocate drop 3 resize", "400 0");
        Check.after("3 allocate drop 1 resize 401 @", "error -9");
        Check.after("3 allocate drop 600 resize", "400 0");
        Check.after("3 allocate drop 601 resize", "400 -61");
        Check.after("3 allocate 2drop 2 allocate 2drop 1 allocate 2drop 403 free drop"
                + " 400 5 resize", "400 0");
        Check.after("3 allocate 2drop 2 allocate 2drop 1 allocate 2drop 403 free drop"
                + " 400 6 resize", "406 0");
        Check.after("598 allocate 2drop 1 allocate drop 2 resize", "998 0");
        Check.after("598 allocate 2drop 1 allocate drop 3 resize", "998 -61");
        Check.of("new cells are 0");
        Check.after("3 allocate 2drop 7 400 ! 8 402 ! 400 1 resize 2drop 400 3 resize 2drop"
                + " 400 @ 401 @ 402 @", "7 0 0");
        Bench bench = new Bench().with("3 allocate drop 5 resize 2drop");
        Check.due("more", bench.told(5, 6), "1 5");
        Check.due("less", bench.with("400 2 resize 2drop").told(5, 6), "1 2");
    }

    private static void resizesElsewhere() {
        Check.of("else at the lowest place for n, where its cells go, and it is freed");
        String two = "2 allocate 2drop 1 allocate 2drop 7 400 ! 8 401 ! ";
        Check.after(two + "400 3 resize 403 @ 404 @ 405 @", "403 0 7 8 0");
        Check.after(two + "400 3 resize 2drop 400 @", "error -9");
        Check.after(two + "400 3 resize 2drop 400 free", "-60");
        Check.after(two + "400 3 resize 2drop 2 allocate", "400 0");
        Check.due("blocks and cells", new Bench().with(two + "400 3 resize").told(5, 6), "2 4");
        // to a gap below it, of just its new size, and to one that its own cells would lengthen
        String below = "3 allocate 2drop 2 allocate 2drop 1 allocate 2drop 7 403 ! 8 404 !"
                + " 400 free drop ";
        Check.after(below + "403 3 resize 400 @ 401 @ 402 @", "400 0 7 8 0");
        Check.after(below + "403 4 resize", "406 0");
        // the cells of the new place were used before
        Check.after(two + "4 allocate 2drop 5 403 ! 6 406 ! 403 free drop 400 4 resize"
                + " 403 @ 404 @ 405 @ 406 @", "403 0 7 8 0 0");
        Check.after(two + "400 597 resize", "403 0");
        Check.after(two + "400 598 resize", "400 -61");
    }

    private static void resizesNot() {
        Check.of("or cell -61, changing nothing: no block, n below 1, no place (its own cells are"
                + " not free)");
        Check.after("3 allocate drop 0 resize", "400 -61");
        Check.after("3 allocate drop -1 resize", "400 -61");
        Check.after("3 allocate drop " + LEAST + " resize", "400 -61");
        Check.after("3 allocate drop " + MOST + " resize", "400 -61");
        Check.after("401 1 resize", "401 -61");
        Check.after("3 allocate 2drop 401 1 resize 399 1 resize 403 1 resize",
                "401 -61 399 -61 403 -61");
        Check.after("0 1 resize -1 1 resize 1000 1 resize " + LEAST + " 1 resize",
                "0 -61 -1 -61 1000 -61 " + LEAST + " -61");
        Check.after("3 allocate 2drop 400 free drop 400 1 resize", "400 -61");
        // two free cells, then its own two, then the rest is taken
        String tight = "2 allocate 2drop 2 allocate 2drop 596 allocate 2drop 400 free drop"
                + " 7 402 ! 8 403 ! ";
        Check.after(tight + "402 3 resize 402 @ 403 @", "402 -61 7 8");
        Check.after(tight + "402 4 resize", "402 -61");
        Check.after(tight + "402 2 resize", "402 0");
        Bench bench = new Bench().with(tight);
        String before = bench.rest();
        bench.then("402 3 resize 2drop 402 0 resize 2drop 403 1 resize 2drop");
        Check.due("nothing has changed", bench.rest(), before);
    }
}
