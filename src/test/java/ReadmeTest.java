/** The calls that README.md shows answer what it says. */
public final class ReadmeTest {
    public static void main(String[] args) {
        Machine machine = new Machine();
        Check.due("2 3 + .", machine.feed(0x202e202b20332032L, 8), 8);
        Check.due("it is done", machine.run(5000), ColonMachine.DONE);
        Check.due("the out", machine.out(), 2);
        Check.due("what it says", machine.word(0), 0x2035);

        machine.push(6);
        Check.due("half a word", machine.feed(0x756420L, 3), 3);
        Check.due("the other half", machine.feed(0x202a2070L, 4), 7);
        Check.due("a step", machine.run(1), ColonMachine.RUNNING);
        Check.due("another step", machine.run(1), ColonMachine.DONE);
        Check.due("6 dup *", machine.pick(0), 36);

        Check.due("1 0 /", machine.feed(0x202f20302031L, 6), 6);
        Check.due("it is thrown", machine.run(5000), ColonMachine.ERROR);
        Check.due("by 0", machine.code(), -10);
        Check.due("the data stack", machine.told(0), 0);
        Check.due("the out stays", machine.out(), 2);
        Check.end();
    }
}
