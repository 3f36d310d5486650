/** Counts the answers that are not as due, and ends a test with them. */
final class Check {
    private static int right = 0;
    private static int wrong = 0;
    private static String sentence = "";

    private Check() {
    }

    interface Call {
        void make();
    }

    /** The sentence of the document that the checks from here on are of. */
    static void of(String said) {
        sentence = said;
    }

    static void due(String what, String got, String want) {
        if (got.equals(want)) {
            right++;
            return;
        }
        wrong++;
        if (!sentence.isEmpty()) {
            System.out.println("\"" + sentence + "\":");
        }
        System.out.println(what + " answered [" + got + "], due is [" + want + "]");
    }

    static void due(String what, long got, long want) {
        due(what, Long.toString(got), Long.toString(want));
    }

    /** A text for a new machine, and the data stack or the error that it comes to. */
    static void after(String text, String want) {
        due(text, Bench.after(text), want);
    }

    static void said(String text, String want) {
        due(text, Bench.said(text), want);
    }

    /** The call must throw just this class. */
    static void thrown(String what, Class<?> want, Call call) {
        String got = "nothing";
        try {
            call.make();
        } catch (RuntimeException e) {
            got = e.getClass().getSimpleName();
        }
        due(what + " throws", got, want == null ? "nothing" : want.getSimpleName());
    }

    static void end() {
        System.out.println(right + " answers as due, " + wrong + " not");
        if (wrong != 0) {
            System.exit(1);
        }
    }
}
