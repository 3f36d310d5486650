/** Promises 3, 9 and 10: what the machine says. */
public final class SayingTest {
    public static void main(String[] args) {
        numbers();
        bytes();
        passages();
        full();
        Check.end();
    }

    private static void numbers() {
        Check.said("0 . 12 . -12 .", "0 12 -12 ");
        Check.said("2147483647 . -2147483648 .", "2147483647 -2147483648 ");
        Check.said("12 u. -1 u. -2147483648 u.", "12 4294967295 2147483648 ");
        Check.said("255 -255 16 base ! . .", "-ff ff ");
        Check.said("-1 2 base ! u.", "1".repeat(32) + " ");
        Check.said("-2147483648 2 base ! .", "-1" + "0".repeat(31) + " ");
        Check.said("35 36 1295 36 base ! . . .", "zz 10 z ");
        Check.said("10 9 16 base ! . .", "9 a ");
        for (String base : new String[] {"0", "1", "37", "-2", "2147483647"}) {
            Check.after("5 " + base + " base ! .", "error -40");
            Check.after("5 " + base + " base ! u.", "error -40");
        }
    }

    private static void bytes() {
        Check.said("65 emit 321 emit -1 emit cr space 0 emit", "AA\u00ff\n \0");
        Check.due("64 cells", saidBy(new Bench().push(64, 65), "cr space emit"), "\n A");
    }

    private static String saidBy(Bench bench, String text) {
        bench.then(text);
        return bench.out();
    }

    private static void passages() {
        Check.said(".\" Ab  c\" .\" \" .\"  d\"", "Ab  c d");
        Check.said(": f .\" X y\" ; f f", "X yX y");
        Check.said(".\"\nab\"", "ab");
        Check.said(".\" a\nb\"1 .", "a\nb1 ");
        Check.said(": f .\" \" ; f 3 .", "3 ");
        Check.after(".\" ab", "error -16");
        Check.after(".\"", "error -16");
        Check.after(": f .\" ab", "error -16");
        Check.after(".\"ab\"", "error -13");
        Check.due("compiling says nothing", Bench.said(": f .\" ab\" ;"), "");
        Check.said(": f 3 0 do .\" ab\" loop ; f", "ababab");
    }

    private static void full() {
        Bench bench = fill(795);
        Check.due("five bytes fit", bench.then("1234 ."), "");
        Check.due("800", bench.machine.out(), 800);
        Check.due("cr", bench.then("cr"), "error -17");
        Check.due("an empty passage fits", bench.then(".\" \""), "");
        for (String word : new String[] {"5 .", "5 u.", "5 emit", "cr", "space", ".\" a\""}) {
            Check.due("full, " + word, bench.then(word), "error -17");
            Check.due("still 800", bench.machine.out(), 800);
        }
        Check.due("cleared", bench.machine.clear(), 800);
        Check.due("room again", bench.then("5 . 6"), "6");
        Bench short1 = fill(796);
        Check.due("five bytes do not fit", short1.then("1234 ."), "error -17");
        Check.due("and none is said", short1.machine.out(), 796);
        Check.due("-123 does not", short1.then("-123 ."), "error -17");
        Check.due("-12 fits", short1.then("-12 ."), "");
        Bench item = fill(798);
        item.then(": f .\" abc\" ;");
        Check.due("an item", item.then("f"), "error -17");
        Check.due("none of it", item.machine.out(), 798);
        Check.due("caught", item.then("5 ' f catch"), "5 -17");
        Check.due("what throws takes nothing", item.then("7 1234 ' . catch"), "5 -17 7 1234 -17");
    }

    private static Bench fill(int n) {
        Bench bench = new Bench();
        bench.then(": f " + n + " 0 do space loop ; f");
        return bench;
    }
}
