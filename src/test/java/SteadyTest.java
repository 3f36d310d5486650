import java.util.Random;

/**
 * Runs of random text: nothing but the document's exceptions comes out, a run that is stopped at
 * every step comes to what an unstopped one does, and no bound is passed.
 */
public final class SteadyTest {
    private static final String[] WORDS = ("dup drop swap over rot nip tuck ?dup pick depth 2dup"
            + " 2drop + - * / mod /mod */ negate abs min max 1+ 1- 2* 2/ and or xor invert lshift"
            + " rshift = <> < > u< 0= 0< >r r> r@ @ ! +! , allot here base . u. emit cr space"
            + " execute catch throw allocate free resize i j unloop exit create variable constant"
            + " marker ' immediate : ; ( \\ .\" ['] recurse if else then begin until again while"
            + " repeat do ?do loop +loop leave does>").split(" ");
    private static final String[] PARTS = {"0", "1", "2", "3", "-1", "5", "10", "400", "402",
        "1000", "1012", "1055", "1056", "a", "b", "c", "m", ": a", ": b", ": c", "; a", "; b", ";",
        "create c", "variable b", "marker m", "' a catch", "' b execute", "['] c catch",
        "3 0 do", "loop", "if", "then", "else", "begin", "until", "dup while", "repeat", ")", "\"",
        ".\" ab\"", "5 constant c", "immediate", ": d create , does> @ ; 4 d c", "3 allocate drop",
        "i", "r>", "1 >r", "exit", "unloop", "leave", "10 base !", "2147483647", "-2147483648"};
    private static final int ROUNDS = 2000;
    private static final int STEPS_MOST = 40;
    private static final int UNREAD_MOST = 400;
    private static final int CALLS_OF_A_PART = 14 + STEPS_MOST;
    // the data stack, the out, and what else there is
    private static final int CALLS_OF_ALL = 65 + 101 + 40;

    private final Random random;

    private SteadyTest(long seed) {
        random = new Random(seed);
    }

    public static void main(String[] args) {
        for (int round = 0; round < ROUNDS; round++) {
            new SteadyTest(round).round("round " + round);
        }
        for (int round = 0; round < 300; round++) {
            new SteadyTest(round).wildCalls("wild round " + round);
        }
        Check.end();
    }

    private void round(String name) {
        Bench whole = new Bench();
        Bench stepped = new Bench();
        int unread = 0;
        while (stepped.machine.callsLeft() > CALLS_OF_A_PART + CALLS_OF_ALL) {
            String text = unread > UNREAD_MOST || random.nextInt(4) == 0 ? "" : text();
            whole.feed(text);
            stepped.feed(text);
            int n = 1 + random.nextInt(STEPS_MOST);
            int want = whole.machine.run(n);
            int got = inSteps(stepped.machine, n);
            Check.due(name + " in steps after " + text, got, want);
            unread = want == ColonMachine.RUNNING ? unread + text.length() : 0;
        }
        Check.due(name, stepped.all(), whole.all());
        bounds(name, whole.machine);
    }

    private static int inSteps(Machine machine, int n) {
        int result = ColonMachine.RUNNING;
        for (int i = 0; i < n && result == ColonMachine.RUNNING; i++) {
            result = machine.run(1);
        }
        return result;
    }

    private static void bounds(String name, Machine machine) {
        int[] most = {64, 64, 40, 80, 400, 600, 600, 1};
        for (int what = 0; what < most.length; what++) {
            int is = machine.told(what);
            if (is < 0 || is > most[what]) {
                Check.due(name + " told " + what, is, most[what]);
            }
        }
        if (machine.out() > 800) {
            Check.due(name + " out", machine.out(), 800);
        }
    }

    private String text() {
        StringBuilder text = new StringBuilder();
        int words = 1 + random.nextInt(12);
        for (int i = 0; i < words; i++) {
            boolean part = random.nextInt(3) != 0;
            text.append(part ? PARTS[random.nextInt(PARTS.length)]
                    : WORDS[random.nextInt(WORDS.length)]).append(' ');
        }
        return text.substring(0, Math.min(100, text.length()));
    }

    /** Any call with any arguments: an exception that its face does not declare ends the test. */
    private void wildCalls(String name) {
        Machine machine = new Machine();
        while (machine.callsLeft() > 100) {
            try {
                wildCall(machine);
            } catch (IllegalArgumentException | IllegalStateException e) {
                // declared
            } catch (IndexOutOfBoundsException e) {
                boolean own = e.getClass() == IndexOutOfBoundsException.class;
                Check.due(name, own ? "" : e.toString(), "");
            }
        }
        Check.due(name, "steady", "steady");
    }

    private void wildCall(Machine machine) {
        int wild = random.nextInt(3) == 0 ? random.nextInt() : random.nextInt(1100) - 50;
        switch (random.nextInt(10)) {
            case 0: machine.run(random.nextInt(4) == 0 ? wild : 1 + random.nextInt(200)); break;
            case 1: machine.pick(wild); break;
            case 2: machine.push(wild); break;
            case 3: machine.peek(wild); break;
            case 4: machine.told(wild % 10); break;
            case 5: machine.word(wild); break;
            case 6: machine.feed(random.nextLong(), wild % 12); break;
            case 7: if (random.nextInt(20) == 0) machine.clear(); else machine.run(3); break;
            default: feedPart(machine); break;
        }
    }

    private void feedPart(Machine machine) {
        String text = text();
        for (int i = 0; i < text.length(); i++) {
            machine.feed(text.charAt(i), 1);
        }
    }
}
