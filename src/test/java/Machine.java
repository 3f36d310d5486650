/**
 * A ColonMachine whose calls are counted: what those beyond the 512th answer is free, so a test
 * that makes more of them is wrong itself.
 */
final class Machine {
    private static final int CALLS_MOST = 512;

    private final ColonMachine machine = new ColonMachine();
    private int calls = 0;

    private ColonMachine called() {
        calls++;
        if (calls == CALLS_MOST + 1) {
            Check.due("calls of one object", calls, CALLS_MOST);
        }
        return machine;
    }

    int callsLeft() {
        return CALLS_MOST - calls;
    }

    int feed(long bytes, int n) {
        return called().feed(bytes, n);
    }

    int run(int n) {
        return called().run(n);
    }

    int code() {
        return called().code();
    }

    int pick(int k) {
        return called().pick(k);
    }

    void push(int a) {
        called().push(a);
    }

    int peek(int cell) {
        return called().peek(cell);
    }

    int told(int what) {
        return called().told(what);
    }

    int out() {
        return called().out();
    }

    long word(int i) {
        return called().word(i);
    }

    int clear() {
        return called().clear();
    }
}
