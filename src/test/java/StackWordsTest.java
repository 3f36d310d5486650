/** Promise 3: the primitives of the data stack and of arithmetic, with their faults. */
public final class StackWordsTest {
    public static void main(String[] args) {
        shuffles();
        sums();
        divides();
        bits();
        compares();
        tooFew();
        tooMany();
        Check.end();
    }

    private static void shuffles() {
        Check.after("1 dup", "1 1");
        Check.after("1 2 drop", "1");
        Check.after("1 2 swap", "2 1");
        Check.after("1 2 over", "1 2 1");
        Check.after("1 2 3 rot", "2 3 1");
        Check.after("1 2 nip", "2");
        Check.after("1 2 tuck", "2 1 2");
        Check.after("5 ?dup 0 ?dup", "5 5 0");
        Check.after("7 8 9 0 pick", "7 8 9 9");
        Check.after("7 8 9 2 pick", "7 8 9 7");
        Check.after("7 8 9 3 pick", "error -4");
        Check.after("7 8 9 -1 pick", "error -4");
        Check.after("0 pick", "error -4");
        Check.after("depth depth depth", "0 1 2");
        Check.after("1 2 2dup", "1 2 1 2");
        Check.after("1 2 3 2drop", "1");
    }

    private static void sums() {
        Check.after("3 4 + 3 4 - 3 4 *", "7 -1 12");
        Check.after("2147483647 1 + -2147483648 1 -", "-2147483648 2147483647");
        Check.after("65536 65537 *", "65536");
        Check.after("5 negate -2147483648 negate", "-5 -2147483648");
        Check.after("-5 abs 5 abs -2147483648 abs", "5 5 -2147483648");
        Check.after("3 -4 min 3 -4 max", "-4 3");
        Check.after("5 1+ 5 1- 2147483647 1+", "6 4 -2147483648");
        Check.after("5 2* 5 2/ -5 2/ -1 2/ 1073741824 2*", "10 2 -3 -1 -2147483648");
    }

    private static void divides() {
        Check.after("7 2 / -7 2 / 7 -2 / -7 -2 /", "3 -4 -4 3");
        Check.after("7 2 mod -7 2 mod 7 -2 mod -7 -2 mod", "1 1 -1 -1");
        Check.after("6 -2 / 6 -2 mod", "-3 0");
        Check.after("-2147483648 -1 / -2147483648 -1 mod", "-2147483648 0");
        Check.after("-7 2 /mod -2147483648 -1 /mod", "1 -4 0 -2147483648");
        Check.after("-7 3 2 */", "-11");
        Check.after("1000000 1000000 1000 */", "1000000000");
        Check.after("-2147483648 -2147483648 -1 */", "0");
        Check.after("2147483647 2147483647 1 */", "1");
        Check.after("-2147483648 1 -1 */", "-2147483648");
        Check.after("1 0 /", "error -10");
        Check.after("1 0 mod", "error -10");
        Check.after("1 0 /mod", "error -10");
        Check.after("1 2 0 */", "error -10");
        Check.after("0 /", "error -4");
        Check.after("1 0 */", "error -4");
    }

    private static void bits() {
        Check.after("12 10 and 12 10 or 12 10 xor 0 invert", "8 14 6 -1");
        Check.after("1 31 lshift 1 32 lshift 1 -1 lshift 3 0 lshift", "-2147483648 0 0 3");
        Check.after("-1 31 rshift -1 1 rshift -1 32 rshift -1 -1 rshift", "1 2147483647 0 0");
        Check.after("1 33 lshift -1 33 rshift -3 0 rshift", "0 0 -3");
    }

    private static void compares() {
        Check.after("1 1 = 1 2 = 1 1 <> 1 2 <>", "-1 0 0 -1");
        Check.after("1 2 < 2 1 < 1 1 < -1 1 <", "-1 0 0 -1");
        Check.after("1 2 > 2 1 > 1 1 > 1 -1 >", "0 -1 0 -1");
        Check.after("-2147483648 2147483647 < 2147483647 -2147483648 >", "-1 -1");
        Check.after("1 2 u< -1 1 u< 1 -1 u< 1 1 u<", "-1 0 -1 0");
        Check.after("0 0= 5 0= -5 0< 0 0< 5 0<", "-1 0 -1 0 0");
    }

    private static void tooFew() {
        String[] one = {"dup", "drop", "?dup", "pick", "negate", "abs", "1+", "1-", "2*", "2/",
            "invert", "0=", "0<", "@", ",", "allot", ".", "u.", "emit", "execute", "catch",
            "throw", "allocate", "free", "constant x"};
        String[] two = {"swap", "over", "nip", "tuck", "2dup", "2drop", "+", "-", "*", "/", "mod",
            "/mod", "min", "max", "and", "or", "xor", "lshift", "rshift", "=", "<>", "<", ">",
            "u<", "!", "+!", "resize"};
        for (String word : one) {
            Check.after(word, "error -4");
        }
        for (String word : two) {
            Check.after(word, "error -4");
            Check.after("1 " + word, "error -4");
        }
        Check.after("1 2 rot", "error -4");
        Check.after("1 2 */", "error -4");
    }

    private static void tooMany() {
        for (String word : new String[] {"dup", "over", "tuck", "depth", "2dup", "here", "base",
            "allocate", "' dup", "5", "?dup"}) {
            Check.due("64 cells, " + word, new Bench().push(64, 1).then(word), "error -3");
            Bench bench = new Bench().push(word.equals("2dup") ? 62 : 63, 1);
            bench.then(word);
            Check.due("64 cells after " + word, bench.machine.told(0), 64);
        }
        Check.due("63 cells, 2dup", new Bench().push(63, 1).then("2dup"), "error -3");
        Bench fits = new Bench().push(64, 0);
        fits.then("?dup swap rot negate nip");
        Check.due("what needs no room", fits.machine.told(0), 63);
        Check.due("a constant", new Bench().with("9 constant x").push(64, 1).then("x"),
                "error -3");
        Check.due("a created word", new Bench().with("create x").push(64, 1).then("x"),
                "error -3");
        Check.due("a literal", new Bench().with(": x 5 ;").push(64, 1).then("x"), "error -3");
    }
}
