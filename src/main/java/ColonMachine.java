import java.util.Arrays;

/**
 * A small Forth that runs in steps. The document's promises are kept by the face below; the
 * classes inside hold the parts of the machine.
 *
 * Whatever may throw (in the document's sense) answers the code that it throws, or FINE. Codes are
 * answered and not thrown as exceptions, because a program may throw at every other step.
 */
public final class ColonMachine {
    public static final int BAD = -1;
    public static final int DONE = 0, RUNNING = 1, ERROR = 2;

    private static final int FINE = 0;
    private static final int STACK_FULL = -3;
    private static final int STACK_SHORT = -4;
    private static final int CALLS_FULL = -5;
    private static final int RETURN_SHORT = -6;
    private static final int NO_ROOM = -8;
    private static final int NOT_VALID = -9;
    private static final int BY_ZERO = -10;
    private static final int NOT_FOUND = -13;
    private static final int ONLY_COMPILING = -14;
    private static final int NO_NAME = -16;
    private static final int OUT_FULL = -17;
    private static final int NOT_TOGETHER = -22;
    private static final int NOT_COMPILING = -29;
    private static final int NO_BASE = -40;

    private static final int STACK_MOST = 64;
    private static final int STEPS_MOST = 5000;
    private static final int FEED_MOST = 8;

    // What a word of the text is found to be: a token, or one of these.
    private static final int NONE = -1;
    private static final int NUMBER = -2;
    private static final int PRIMITIVES_FROM = 1000;
    private static final int SPECIALS_FROM = 2000;

    private final Cells data = new Cells(STACK_MOST);
    private final Cells returns = new Cells(STACK_MOST);
    private final Calls calls = new Calls();
    private final Memory memory = new Memory();
    private final Out out = new Out();
    private final Text text = new Text();
    private final Words words = new Words();
    private final Compiler compiler = new Compiler(text, words, memory, out);
    private final Primitives primitives =
            new Primitives(data, returns, calls, memory, out, text, words);
    private int latestCode = 0;

    public ColonMachine() {
    }

    public int feed(long bytes, int n) throws IllegalArgumentException, IllegalStateException {
        if (n < 1 || n > FEED_MOST) {
            throw new IllegalArgumentException("n is not 1 .. 8");
        }
        if (!text.hasRoomFor(n)) {
            throw new IllegalStateException("the text would have more than 500 bytes");
        }
        text.append(bytes, n);
        return text.size();
    }

    public int run(int n) throws IllegalArgumentException {
        if (n < 1 || n > STEPS_MOST) {
            throw new IllegalArgumentException("n is not 1 .. 5000");
        }
        for (int steps = 0; steps < n; steps++) {
            if (nothingIsLeft()) {
                return DONE;
            }
            int thrown = calls.isEmpty() ? interpret() : goOn();
            if (thrown != FINE && !isCaught(thrown)) {
                latestCode = thrown;
                return ERROR;
            }
        }
        return nothingIsLeft() ? DONE : RUNNING;
    }

    public int code() {
        return latestCode;
    }

    public int pick(int k) throws IndexOutOfBoundsException {
        if (k < 0 || k >= data.size()) {
            throw new IndexOutOfBoundsException("the data stack has no such cell");
        }
        return data.at(k);
    }

    public void push(int a) throws IllegalStateException {
        if (!data.hasRoomFor(1)) {
            throw new IllegalStateException("the data stack has 64 cells");
        }
        data.put(a);
    }

    public int peek(int cell) throws IndexOutOfBoundsException {
        if (!memory.isValid(cell)) {
            throw new IndexOutOfBoundsException("the cell is not valid");
        }
        return memory.read(cell);
    }

    public int told(int what) {
        switch (what) {
            case 0: return data.size();
            case 1: return returns.size();
            case 2: return calls.size();
            case 3: return words.size();
            case 4: return memory.here();
            case 5: return memory.blocks();
            case 6: return memory.cellsInBlocks();
            case 7: return compiler.isCompiling() ? 1 : 0;
            default: return BAD;
        }
    }

    public int out() {
        return out.size();
    }

    public long word(int i) {
        return out.eightBytes(i);
    }

    public int clear() {
        int had = out.size();
        out.empty();
        return had;
    }

    private boolean nothingIsLeft() {
        return calls.isEmpty() && !text.hasMore();
    }

    /** A step without calls. */
    private int interpret() {
        if (!text.readWord()) {
            return NO_NAME;
        }
        int found = words.lookUp(text, memory.base());
        if (found == NONE) {
            return NOT_FOUND;
        }
        if (found >= SPECIALS_FROM) {
            return compiler.perform(found - SPECIALS_FROM);
        }
        if (compiler.isCompiling() && !words.isImmediate(found)) {
            return compiler.compile(found);
        }
        return found == NUMBER ? pushed(text.number(memory.base())) : execute(found);
    }

    /** A step with calls. */
    private int goOn() {
        if (calls.topIsCatch()) {
            return endCatch();
        }
        Item item = nextItem();
        if (item == null) {
            return endCall();
        }
        switch (item.kind) {
            case Item.LITERAL: return pushed(item.value);
            case Item.WORD: return execute(item.value);
            case Item.RECURSE: return execute(calls.topOwner());
            case Item.SAY: return out.said(item.text);
            case Item.BRANCH: return wentTo(item.value);
            case Item.ZERO: return wentIfZero(item.value);
            case Item.DO: return enterLoop();
            case Item.QDO: return enterLoopUnlessSame(item.value);
            case Item.LOOP: return loop(item.value);
            case Item.PLUS: return plusLoop(item.value);
            case Item.LEAVE: return leaveLoop(item.value);
            case Item.DOES: return giveBehaviour();
            default: return endCall();
        }
    }

    private int endCatch() {
        // The catch must still be there when this is thrown: it is the one that has it.
        if (!data.hasRoomFor(1)) {
            return STACK_FULL;
        }
        calls.end();
        data.put(0);
        return FINE;
    }

    private Item nextItem() {
        Word owner = words.at(calls.topOwner());
        if (owner == null) {
            return null;
        }
        int place = calls.topPlace();
        calls.goTo(place + 1);
        return owner.itemAt(place);
    }

    private int pushed(int a) {
        if (!data.hasRoomFor(1)) {
            return STACK_FULL;
        }
        data.put(a);
        return FINE;
    }

    private int wentTo(int place) {
        calls.goTo(place);
        return FINE;
    }

    private int wentIfZero(int place) {
        if (!data.has(1)) {
            return STACK_SHORT;
        }
        return data.take() == 0 ? wentTo(place) : FINE;
    }

    private int enterLoop() {
        if (!data.has(2)) {
            return STACK_SHORT;
        }
        if (!returns.hasRoomFor(2)) {
            return STACK_FULL;
        }
        int index = data.take();
        returns.put(data.take());
        returns.put(index);
        return FINE;
    }

    private int enterLoopUnlessSame(int behind) {
        if (data.has(2) && data.at(0) == data.at(1)) {
            data.drop(2);
            return wentTo(behind);
        }
        return enterLoop();
    }

    private boolean hasLoop() {
        return calls.ownReturns(returns.size()) >= 2;
    }

    private int loop(int back) {
        if (!hasLoop()) {
            return RETURN_SHORT;
        }
        int index = returns.at(0) + 1;
        if (index == returns.at(1)) {
            returns.drop(2);
            return FINE;
        }
        returns.set(0, index);
        return wentTo(back);
    }

    private int plusLoop(int back) {
        if (!data.has(1)) {
            return STACK_SHORT;
        }
        if (!hasLoop()) {
            return RETURN_SHORT;
        }
        int n = data.take();
        int x = returns.at(0) - returns.at(1);
        int y = x + n;
        if (((x ^ y) & (x ^ n)) < 0) {
            returns.drop(2);
            return FINE;
        }
        returns.set(0, returns.at(0) + n);
        return wentTo(back);
    }

    private int leaveLoop(int behind) {
        if (!hasLoop()) {
            return RETURN_SHORT;
        }
        returns.drop(2);
        return wentTo(behind);
    }

    private int giveBehaviour() {
        if (calls.ownReturns(returns.size()) != 0) {
            return RETURN_SHORT;
        }
        Word latest = words.latest();
        if (latest == null || latest.kind != Word.CREATED) {
            return NOT_VALID;
        }
        // The owner of this body is older than the latest word, so no marker takes it alone.
        latest.behaviourOwner = calls.topOwner();
        latest.behaviourPlace = calls.topPlace();
        calls.end();
        return FINE;
    }

    private int endCall() {
        if (calls.ownReturns(returns.size()) != 0) {
            return RETURN_SHORT;
        }
        calls.end();
        return FINE;
    }

    /** Each execute or catch in a row takes a cell, so there are no more of them than cells. */
    private int execute(int token) {
        int next = token;
        for (int taken = 0; taken <= STACK_MOST; taken++) {
            if (next != Primitives.EXECUTE && next != Primitives.CATCH) {
                break;
            }
            boolean catching = next == Primitives.CATCH;
            int refused = refusalOfToken(catching);
            if (refused != FINE) {
                return refused;
            }
            next = data.take();
            if (catching) {
                calls.beginCatch(returns.size(), data.size());
            }
        }
        if (next >= PRIMITIVES_FROM) {
            return primitives.perform(next - PRIMITIVES_FROM);
        }
        return executeOwn(next);
    }

    private int refusalOfToken(boolean catching) {
        if (!data.has(1)) {
            return STACK_SHORT;
        }
        int token = data.at(0);
        if (words.at(token) == null && !Primitives.isToken(token)) {
            return NOT_VALID;
        }
        return catching && calls.isFull() ? CALLS_FULL : FINE;
    }

    private int executeOwn(int token) {
        Word word = words.at(token);
        if (word == null) {
            return NOT_VALID;
        }
        switch (word.kind) {
            case Word.COLON: return call(token, 0);
            case Word.CREATED: return executeCreated(word);
            case Word.CONSTANT: return pushed(word.value);
            default: return takeBack(token, word.value);
        }
    }

    private int call(int owner, int place) {
        if (calls.isFull()) {
            return CALLS_FULL;
        }
        calls.begin(owner, place, returns.size());
        return FINE;
    }

    private int executeCreated(Word word) {
        if (word.behaviourOwner == NONE) {
            return pushed(word.value);
        }
        if (!data.hasRoomFor(1)) {
            return STACK_FULL;
        }
        int refused = call(word.behaviourOwner, word.behaviourPlace);
        if (refused == FINE) {
            data.put(word.value);
        }
        return refused;
    }

    private int takeBack(int marker, int here) {
        if (compiler.isCompiling()) {
            return NOT_COMPILING;
        }
        if (calls.holdBodyFrom(marker)) {
            return NOT_VALID;
        }
        words.cutTo(marker);
        memory.setHere(here);
        return FINE;
    }

    private boolean isCaught(int thrown) {
        int place = calls.latestCatch();
        if (place == NONE) {
            text.empty();
            data.cutTo(0);
            returns.cutTo(0);
            calls.cutTo(0);
            compiler.drop();
            return false;
        }
        // No call reaches below its own cells of the return stack: their number is enough.
        returns.cutTo(calls.returnsAt(place));
        data.cutTo(calls.dataAt(place));
        data.put(thrown);
        calls.cutTo(place);
        return true;
    }

    /** A pile of cells with a bound. */
    private static final class Cells {
        private final int[] cells;
        private int size = 0;

        Cells(int most) {
            cells = new int[most < 0 ? 0 : most];
        }

        int size() {
            return size;
        }

        boolean has(int n) {
            return size >= n;
        }

        boolean hasRoomFor(int n) {
            return n <= cells.length - size;
        }

        void put(int a) {
            if (size < cells.length) {
                cells[size] = a;
                size++;
            }
        }

        int take() {
            if (size < 1) {
                return 0;
            }
            size--;
            return cells[size];
        }

        void drop(int n) {
            size = n < size ? size - n : 0;
        }

        int at(int k) {
            return k >= 0 && k < size ? cells[size - 1 - k] : 0;
        }

        void set(int k, int a) {
            if (k >= 0 && k < size) {
                cells[size - 1 - k] = a;
            }
        }

        /** Missing cells are 0. */
        void cutTo(int n) {
            if (n < 0 || n > cells.length) {
                return;
            }
            if (n > size) {
                Arrays.fill(cells, size, n, 0);
            }
            size = n;
        }
    }

    /** The text that is not read yet, and the word that was read last. */
    private static final class Text {
        private static final int MOST = 500;
        private static final int BLANK = 32;
        private static final int NAME_MOST = 8;

        private final int[] bytes = new int[MOST];
        private int begin = 0;
        private int end = 0;
        private int wordBegin = 0;
        private int wordEnd = 0;

        int size() {
            return end - begin;
        }

        boolean hasRoomFor(int n) {
            return n <= MOST - size();
        }

        void empty() {
            begin = 0;
            end = 0;
            wordBegin = 0;
            wordEnd = 0;
        }

        void append(long eight, int n) {
            int unread = size();
            System.arraycopy(bytes, begin, bytes, 0, unread);
            empty();
            end = unread;
            for (int i = 0; i < n && end < MOST; i++) {
                bytes[end] = (int) (eight >>> (8 * i)) & 255;
                end++;
            }
        }

        boolean hasMore() {
            while (begin < end && bytes[begin] <= BLANK) {
                begin++;
            }
            return begin < end;
        }

        boolean readWord() {
            boolean more = hasMore();
            wordBegin = begin;
            while (begin < end && bytes[begin] > BLANK) {
                bytes[begin] = lower(bytes[begin]);
                begin++;
            }
            wordEnd = begin;
            if (begin < end) {
                begin++;
            }
            return more;
        }

        private static int lower(int b) {
            return b >= 'A' && b <= 'Z' ? b + ('a' - 'A') : b;
        }

        /** The word as a name, or 0: no byte of a word is 0, so no name is. */
        long name() {
            long name = 0;
            if (wordEnd - wordBegin > NAME_MOST) {
                return name;
            }
            for (int i = wordBegin; i < wordEnd; i++) {
                name = name << 8 | bytes[i];
            }
            return name;
        }

        /** Which of the names, each with a blank behind it, the word is. */
        int placeIn(String names) {
            int length = wordEnd - wordBegin;
            int place = 0;
            int same = 0;
            for (int i = 0; i < names.length(); i++) {
                char c = names.charAt(i);
                if (c == ' ') {
                    if (same == length) {
                        return place;
                    }
                    place++;
                    same = 0;
                } else if (same >= 0 && same < length && bytes[wordBegin + same] == c) {
                    same++;
                } else {
                    same = NONE;
                }
            }
            return NONE;
        }

        private int digitsBegin() {
            boolean signed = wordBegin < wordEnd && bytes[wordBegin] == '-';
            return signed ? wordBegin + 1 : wordBegin;
        }

        private static int digit(int b) {
            if (b >= '0' && b <= '9') {
                return b - '0';
            }
            return b >= 'a' && b <= 'z' ? b - 'a' + 10 : NONE;
        }

        boolean isNumber(int base) {
            int begins = digitsBegin();
            if (!Memory.isBase(base) || begins >= wordEnd) {
                return false;
            }
            for (int i = begins; i < wordEnd; i++) {
                int digit = digit(bytes[i]);
                if (digit == NONE || digit >= base) {
                    return false;
                }
            }
            return true;
        }

        int number(int base) {
            int begins = digitsBegin();
            int number = 0;
            for (int i = begins; i < wordEnd; i++) {
                number = number * base + digit(bytes[i]);
            }
            return begins == wordBegin ? number : -number;
        }

        private int placeOf(int b) {
            for (int i = begin; i < end; i++) {
                if (bytes[i] == b) {
                    return i;
                }
            }
            return NONE;
        }

        void skipBehind(int b) {
            int place = placeOf(b);
            begin = place == NONE ? end : place + 1;
        }

        /** What stands before the next such byte, which is gone over; or null. */
        int[] passage(int b) {
            int place = placeOf(b);
            if (place == NONE) {
                return null;
            }
            int[] passage = Arrays.copyOfRange(bytes, begin, place);
            begin = place + 1;
            return passage;
        }
    }

    /** The data space and the heap. */
    private static final class Memory {
        private static final int HEAP = 400;
        private static final int END = 1000;

        private final int[] cells = new int[END];
        // For each cell of the heap the cell where its block begins, or 0.
        private final int[] blockOf = new int[END - HEAP];
        private int here = 1;

        Memory() {
            cells[0] = 10;
        }

        int base() {
            return cells[0];
        }

        static boolean isBase(int base) {
            return base >= 2 && base <= 36;
        }

        int here() {
            return here;
        }

        boolean isValid(int cell) {
            if (cell < 0 || cell >= END) {
                return false;
            }
            return cell < here || cell >= HEAP && blockOf[cell - HEAP] != 0;
        }

        int read(int cell) {
            return cell >= 0 && cell < END ? cells[cell] : 0;
        }

        void write(int cell, int a) {
            if (cell >= 0 && cell < END) {
                cells[cell] = a;
            }
        }

        boolean isFull() {
            return here >= HEAP;
        }

        void comma(int a) {
            if (here < HEAP) {
                cells[here] = a;
                here++;
            }
        }

        boolean canAllot(int n) {
            return n >= 1 - here && n <= HEAP - here;
        }

        void allot(int n) {
            if (!canAllot(n)) {
                return;
            }
            if (n > 0) {
                Arrays.fill(cells, here, here + n, 0);
            }
            here += n;
        }

        void setHere(int cell) {
            if (cell >= 1 && cell <= HEAP) {
                here = cell;
            }
        }

        int blocks() {
            int blocks = 0;
            for (int i = 0; i < blockOf.length; i++) {
                if (blockOf[i] == HEAP + i) {
                    blocks++;
                }
            }
            return blocks;
        }

        int cellsInBlocks() {
            int taken = 0;
            for (int i = 0; i < blockOf.length; i++) {
                if (blockOf[i] != 0) {
                    taken++;
                }
            }
            return taken;
        }

        private boolean isBlock(int cell) {
            return cell >= HEAP && cell < END && blockOf[cell - HEAP] == cell;
        }

        private int sizeOf(int block) {
            int size = 0;
            for (int i = block; i < END && i >= HEAP && blockOf[i - HEAP] == block; i++) {
                size++;
            }
            return size;
        }

        private int lowestPlace(int n) {
            int free = 0;
            for (int i = 0; i < blockOf.length; i++) {
                free = blockOf[i] == 0 ? free + 1 : 0;
                if (free == n) {
                    return HEAP + i + 1 - n;
                }
            }
            return 0;
        }

        /** Marks cells of the heap as the block's, or as free for a block 0. */
        private void mark(int from, int to, int block) {
            for (int i = from; i < to; i++) {
                if (i >= HEAP && i < END) {
                    blockOf[i - HEAP] = block;
                }
            }
        }

        private void clearCells(int from, int to) {
            for (int i = from; i < to; i++) {
                if (i >= HEAP && i < END) {
                    cells[i] = 0;
                }
            }
        }

        /** The new block, or 0. */
        int allocate(int n) {
            int block = n < 1 ? 0 : lowestPlace(n);
            if (block != 0) {
                mark(block, block + n, block);
                clearCells(block, block + n);
            }
            return block;
        }

        boolean free(int cell) {
            if (!isBlock(cell)) {
                return false;
            }
            mark(cell, cell + sizeOf(cell), 0);
            return true;
        }

        /** Where the block is now, or 0: nothing has changed. */
        int resize(int block, int n) {
            if (!isBlock(block) || n < 1 || n > END - HEAP) {
                return 0;
            }
            int size = sizeOf(block);
            if (n <= size) {
                mark(block + n, block + size, 0);
                return block;
            }
            return canGrow(block, size, n) ? grow(block, size, n) : move(block, size, n);
        }

        private boolean canGrow(int block, int size, int n) {
            if (block + n > END) {
                return false;
            }
            for (int i = block + size; i < block + n; i++) {
                if (i < HEAP || blockOf[i - HEAP] != 0) {
                    return false;
                }
            }
            return true;
        }

        private int grow(int block, int size, int n) {
            mark(block + size, block + n, block);
            clearCells(block + size, block + n);
            return block;
        }

        private int move(int block, int size, int n) {
            int place = lowestPlace(n);
            if (place == 0) {
                return 0;
            }
            for (int i = 0; i < size; i++) {
                write(place + i, read(block + i));
            }
            clearCells(place + size, place + n);
            mark(place, place + n, place);
            mark(block, block + size, 0);
            return place;
        }
    }

    /** What the machine has said. */
    private static final class Out {
        private static final int MOST = 800;
        private static final int BLANK = 32;
        private static final int DIGITS_MOST = 32;

        private final int[] bytes = new int[MOST];
        private int size = 0;

        int size() {
            return size;
        }

        void empty() {
            size = 0;
        }

        private boolean hasRoomFor(int n) {
            return n <= MOST - size;
        }

        long eightBytes(int i) {
            long eight = 0;
            if (i < 0 || i >= MOST / 8) {
                return eight;
            }
            for (int k = 7; k >= 0; k--) {
                int place = 8 * i + k;
                eight = eight << 8 | (place < size ? bytes[place] : 0);
            }
            return eight;
        }

        int saidByte(int b) {
            if (!hasRoomFor(1)) {
                return OUT_FULL;
            }
            bytes[size] = b & 255;
            size++;
            return FINE;
        }

        int said(int[] passage) {
            if (passage == null) {
                return FINE;
            }
            if (!hasRoomFor(passage.length)) {
                return OUT_FULL;
            }
            System.arraycopy(passage, 0, bytes, size, passage.length);
            size += passage.length;
            return FINE;
        }

        /** The number and a blank. */
        int saidNumber(long number, int base) {
            if (!Memory.isBase(base)) {
                return NO_BASE;
            }
            long rest = number < 0 ? -number : number;
            int sign = number < 0 ? 1 : 0;
            int digits = digitsOf(rest, base);
            if (!hasRoomFor(sign + digits + 1)) {
                return OUT_FULL;
            }
            if (sign == 1) {
                bytes[size] = '-';
            }
            for (int i = sign + digits - 1; i >= sign; i--) {
                int digit = (int) (rest % base);
                bytes[size + i] = digit < 10 ? '0' + digit : 'a' + digit - 10;
                rest /= base;
            }
            bytes[size + sign + digits] = BLANK;
            size += sign + digits + 1;
            return FINE;
        }

        private static int digitsOf(long number, int base) {
            int digits = 1;
            for (long power = base; power <= number && digits < DIGITS_MOST; power *= base) {
                digits++;
            }
            return digits;
        }
    }

    /** An item of a body: its value is a token, a literal, or the place where it goes on. */
    private static final class Item {
        static final int LITERAL = 0, WORD = 1, RECURSE = 2, SAY = 3, BRANCH = 4, ZERO = 5;
        static final int DO = 6, QDO = 7, LOOP = 8, PLUS = 9, LEAVE = 10, DOES = 11, END = 12;

        final int kind;
        final int[] text;
        int value;

        Item(int kind, int value, int[] text) {
            this.kind = kind;
            this.value = value;
            this.text = text;
        }
    }

    /** A word of the machine's own. Its value: a created word's cell, a constant, a marker's HERE. */
    private static final class Word {
        static final int COLON = 0, CREATED = 1, CONSTANT = 2, MARKER = 3;

        final long name;
        final int kind;
        final int value;
        private final Item[] body;
        boolean immediate = false;
        int behaviourOwner = NONE;
        int behaviourPlace = 0;

        Word(long name, int kind, int value, Item[] body) {
            this.name = name;
            this.kind = kind;
            this.value = value;
            this.body = body;
        }

        Item itemAt(int place) {
            return body != null && place >= 0 && place < body.length ? body[place] : null;
        }
    }

    /** The dictionary. */
    private static final class Words {
        private static final int MOST = 80;

        private final Word[] words = new Word[MOST];
        private int size = 0;

        int size() {
            return size;
        }

        boolean isFull() {
            return size >= MOST;
        }

        Word at(int token) {
            return token >= 0 && token < size ? words[token] : null;
        }

        Word latest() {
            return at(size - 1);
        }

        boolean isImmediate(int token) {
            Word word = at(token);
            return word != null && word.immediate;
        }

        void add(Word word) {
            if (size < MOST) {
                words[size] = word;
                size++;
            }
        }

        void cutTo(int token) {
            if (token >= 0 && token < size) {
                size = token;
            }
        }

        /** What the word of the text is: a token, SPECIALS_FROM and a place, NUMBER or NONE. */
        int lookUp(Text text, int base) {
            long name = text.name();
            for (int token = size - 1; token >= 0; token--) {
                Word word = words[token];
                if (word != null && word.name == name) {
                    return token;
                }
            }
            int special = text.placeIn(Compiler.NAMES);
            if (special != NONE) {
                return SPECIALS_FROM + special;
            }
            int primitive = text.placeIn(Primitives.NAMES);
            if (primitive != NONE) {
                return PRIMITIVES_FROM + primitive;
            }
            return text.isNumber(base) ? NUMBER : NONE;
        }

        static boolean isToken(int found) {
            return found >= 0 && found < SPECIALS_FROM;
        }
    }

    /** The pile of calls: bodies with a place in them, and catches, which have no owner. */
    private static final class Calls {
        private static final int MOST = 40;

        private final int[] owners = new int[MOST];
        private final int[] places = new int[MOST];
        // How many cells the stacks had when the call was made.
        private final int[] returnSizes = new int[MOST];
        private final int[] dataSizes = new int[MOST];
        private int size = 0;

        int size() {
            return size;
        }

        boolean isEmpty() {
            return size == 0;
        }

        boolean isFull() {
            return size >= MOST;
        }

        void begin(int owner, int place, int returnSize) {
            add(owner, place, returnSize, 0);
        }

        void beginCatch(int returnSize, int dataSize) {
            add(NONE, 0, returnSize, dataSize);
        }

        private void add(int owner, int place, int returnSize, int dataSize) {
            if (size < MOST) {
                owners[size] = owner;
                places[size] = place;
                returnSizes[size] = returnSize;
                dataSizes[size] = dataSize;
                size++;
            }
        }

        void end() {
            cutTo(size - 1);
        }

        void cutTo(int n) {
            if (n >= 0 && n < size) {
                size = n;
            }
        }

        boolean topIsCatch() {
            return size > 0 && owners[size - 1] == NONE;
        }

        boolean topIsBody() {
            return size > 0 && owners[size - 1] != NONE;
        }

        int topOwner() {
            return size > 0 ? owners[size - 1] : NONE;
        }

        int topPlace() {
            return size > 0 ? places[size - 1] : 0;
        }

        void goTo(int place) {
            if (size > 0) {
                places[size - 1] = place;
            }
        }

        /** How many cells of the return stack are the topmost call's own. */
        int ownReturns(int returnSize) {
            return size > 0 ? returnSize - returnSizes[size - 1] : 0;
        }

        boolean holdBodyFrom(int token) {
            for (int i = 0; i < size; i++) {
                if (owners[i] >= token) {
                    return true;
                }
            }
            return false;
        }

        int latestCatch() {
            for (int i = size - 1; i >= 0; i--) {
                if (owners[i] == NONE) {
                    return i;
                }
            }
            return NONE;
        }

        int returnsAt(int i) {
            return i >= 0 && i < size ? returnSizes[i] : 0;
        }

        int dataAt(int i) {
            return i >= 0 && i < size ? dataSizes[i] : 0;
        }
    }

    /** What is compiled, and the specials, most of which add to it. */
    private static final class Compiler {
        static final String NAMES = ": ; ( \\ .\" ['] recurse if else then begin until again while repeat do ?do loop +loop leave does> ";

        private static final int COLON = 0, SEMICOLON = 1, PAREN = 2, BACKSLASH = 3, SAY = 4;
        private static final int TICK = 5, RECURSE = 6, IF = 7, ELSE = 8, THEN = 9, BEGIN = 10;
        private static final int UNTIL = 11, AGAIN = 12, WHILE = 13, REPEAT = 14, DO = 15;
        private static final int QDO = 16, LOOP = 17, PLUS = 18, LEAVE = 19, DOES = 20;

        private static final int ITEMS_MOST = 150;
        // The text of 512 calls can not open so many.
        private static final int OPEN_MOST = 1000;

        private final Text text;
        private final Words words;
        private final Memory memory;
        private final Out out;
        private final Item[] items = new Item[ITEMS_MOST];
        private int size = 0;
        private boolean compiling = false;
        private long name = 0;
        // What is open, by the special that opened it, and the place of its item.
        private final Cells openers = new Cells(OPEN_MOST);
        private final Cells openPlaces = new Cells(OPEN_MOST);

        Compiler(Text text, Words words, Memory memory, Out out) {
            this.text = text;
            this.words = words;
            this.memory = memory;
            this.out = out;
        }

        boolean isCompiling() {
            return compiling;
        }

        void drop() {
            compiling = false;
            size = 0;
            openers.cutTo(0);
            openPlaces.cutTo(0);
        }

        int compile(int found) {
            if (found == NUMBER) {
                return added(Item.LITERAL, text.number(memory.base()));
            }
            return added(Item.WORD, found);
        }

        int perform(int special) {
            if (special >= TICK && !compiling) {
                return ONLY_COMPILING;
            }
            switch (special) {
                case COLON: return begin();
                case SEMICOLON: return finish();
                case PAREN: return skipped(')');
                case BACKSLASH: return skipped('\n');
                case SAY: return say();
                case TICK: return tick();
                default: return structure(special);
            }
        }

        private int added(int kind, int value) {
            return addedItem(new Item(kind, value, null));
        }

        private int addedItem(Item item) {
            if (size >= ITEMS_MOST) {
                return NO_ROOM;
            }
            items[size] = item;
            size++;
            return FINE;
        }

        private int begin() {
            if (compiling) {
                return NOT_COMPILING;
            }
            text.readWord();
            name = text.name();
            if (name == 0) {
                return NO_NAME;
            }
            compiling = true;
            return FINE;
        }

        private int finish() {
            if (!compiling) {
                return ONLY_COMPILING;
            }
            if (words.isFull() || size >= ITEMS_MOST) {
                return NO_ROOM;
            }
            if (openers.has(1)) {
                return NOT_TOGETHER;
            }
            added(Item.END, 0);
            words.add(new Word(name, Word.COLON, 0, bodyOfItems()));
            drop();
            return FINE;
        }

        private Item[] bodyOfItems() {
            Item[] body = new Item[size];
            for (int i = 0; i < size; i++) {
                body[i] = items[i];
            }
            return body;
        }

        private int skipped(int b) {
            text.skipBehind(b);
            return FINE;
        }

        private int say() {
            int[] passage = text.passage('"');
            if (passage == null) {
                return NO_NAME;
            }
            return compiling ? addedItem(new Item(Item.SAY, 0, passage)) : out.said(passage);
        }

        private int tick() {
            if (!text.readWord()) {
                return NO_NAME;
            }
            int found = words.lookUp(text, memory.base());
            return Words.isToken(found) ? added(Item.LITERAL, found) : NOT_FOUND;
        }

        private int structure(int special) {
            boolean adds = special != THEN && special != BEGIN;
            if (adds && size >= ITEMS_MOST || !openers.hasRoomFor(1)) {
                return NO_ROOM;
            }
            if (!goesTogether(special)) {
                return NOT_TOGETHER;
            }
            switch (special) {
                case RECURSE: return added(Item.RECURSE, 0);
                case IF: return opened(IF, Item.ZERO);
                case ELSE: return compileElse();
                case THEN: return aimed(close(), size);
                case BEGIN: return open(BEGIN);
                case UNTIL: return back(Item.ZERO);
                case AGAIN: return back(Item.BRANCH);
                case WHILE: return opened(WHILE, Item.ZERO);
                case REPEAT: return compileRepeat();
                case DO: return opened(DO, Item.DO);
                case QDO: return opened(DO, Item.QDO);
                case LOOP: return compileLoop(Item.LOOP);
                case PLUS: return compileLoop(Item.PLUS);
                case LEAVE: return added(Item.LEAVE, NONE);
                default: return added(Item.DOES, 0);
            }
        }

        private boolean goesTogether(int special) {
            int top = openers.has(1) ? openers.at(0) : NONE;
            switch (special) {
                case ELSE: return top == IF;
                case THEN: return top == IF || top == ELSE;
                case UNTIL:
                case AGAIN:
                case WHILE: return top == BEGIN;
                case REPEAT: return top == WHILE;
                case LOOP:
                case PLUS: return top == DO;
                case LEAVE: return isDoOpen();
                default: return true;
            }
        }

        private boolean isDoOpen() {
            for (int k = 0; k < openers.size(); k++) {
                if (openers.at(k) == DO) {
                    return true;
                }
            }
            return false;
        }

        private int open(int opener) {
            openers.put(opener);
            openPlaces.put(size);
            return FINE;
        }

        private int opened(int opener, int kind) {
            open(opener);
            return added(kind, NONE);
        }

        /** Closes the topmost one: its place. */
        private int close() {
            openers.drop(1);
            return openPlaces.take();
        }

        private int aimed(int item, int place) {
            if (item >= 0 && item < size && items[item] != null) {
                items[item].value = place;
            }
            return FINE;
        }

        private int compileElse() {
            aimed(close(), size + 1);
            return opened(ELSE, Item.BRANCH);
        }

        private int back(int kind) {
            return added(kind, close());
        }

        private int compileRepeat() {
            aimed(close(), size + 1);
            return back(Item.BRANCH);
        }

        private int compileLoop(int kind) {
            int opener = close();
            added(kind, opener + 1);
            for (int i = opener; i >= 0 && i < size; i++) {
                if (goesBehind(items[i])) {
                    aimed(i, size);
                }
            }
            return FINE;
        }

        /** Loops within this one are closed, so what has no aim yet is this one's. */
        private static boolean goesBehind(Item item) {
            return item != null && item.value == NONE
                    && (item.kind == Item.LEAVE || item.kind == Item.QDO);
        }
    }

    /** The primitives but for execute and catch, which execute further words. */
    private static final class Primitives {
        static final String NAMES = "dup drop swap over rot nip tuck ?dup pick depth 2dup 2drop + - * / mod /mod */ negate abs min max 1+ 1- 2* 2/ and or xor invert lshift rshift = <> < > u< 0= 0< >r r> r@ @ ! +! , allot here base . u. emit cr space execute catch throw allocate free resize i j unloop exit create variable constant marker ' immediate ";

        static final int EXECUTE = 1055, CATCH = 1056;

        private static final int DUP = 0, DROP = 1, SWAP = 2, OVER = 3, ROT = 4, NIP = 5, TUCK = 6;
        private static final int MAYBE_DUP = 7, PICK = 8, DEPTH = 9, TWO_DUP = 10, TWO_DROP = 11;
        private static final int ADD = 12, SUBTRACT = 13, MULTIPLY = 14, DIVIDE = 15, MOD = 16;
        private static final int DIVIDE_MOD = 17, MULTIPLY_DIVIDE = 18, NEGATE = 19, ABS = 20;
        private static final int MIN = 21, MAX = 22, ONE_MORE = 23, ONE_LESS = 24, TWICE = 25;
        private static final int HALF = 26, AND = 27, OR = 28, XOR = 29, INVERT = 30, LSHIFT = 31;
        private static final int RSHIFT = 32, SAME = 33, DIFFERENT = 34, LESS = 35, GREATER = 36;
        private static final int UNSIGNED_LESS = 37, IS_ZERO = 38, IS_BELOW_ZERO = 39;
        private static final int TO_RETURN = 40, FROM_RETURN = 41, READ_RETURN = 42, READ = 43;
        private static final int WRITE = 44, ADD_TO = 45, COMMA = 46, ALLOT = 47, HERE = 48;
        private static final int BASE = 49, SAY = 50, SAY_UNSIGNED = 51, EMIT = 52, CR = 53;
        private static final int SPACE = 54, THROW = 57, ALLOCATE = 58, FREE = 59, RESIZE = 60;
        private static final int I = 61, J = 62, UNLOOP = 63, EXIT = 64, CREATE = 65;
        private static final int VARIABLE = 66, CONSTANT = 67, MARKER = 68, TICK = 69;
        private static final int IMMEDIATE = 70, COUNT = 71;

        private static final int NOT_ALLOCATED = -59, NOT_FREED = -60, NOT_RESIZED = -61;

        // By primitive, in rows of ten: the cells of the data stack that it takes, and leaves.
        private static final int[] TAKES = {
            1, 1, 2, 2, 3, 2, 2, 1, 1, 0,
            2, 2, 2, 2, 2, 2, 2, 2, 3, 1,
            1, 2, 2, 1, 1, 1, 1, 2, 2, 2,
            1, 2, 2, 2, 2, 2, 2, 2, 1, 1,
            1, 0, 0, 1, 2, 2, 1, 1, 0, 0,
            1, 1, 1, 0, 0, 1, 1, 1, 1, 1,
            2, 0, 0, 0, 0, 0, 0, 1, 0, 0,
            0};
        private static final int[] LEAVES = {
            2, 0, 2, 3, 3, 1, 3, 1, 1, 1,
            4, 0, 1, 1, 1, 1, 1, 2, 1, 1,
            1, 1, 1, 1, 1, 1, 1, 1, 1, 1,
            1, 1, 1, 1, 1, 1, 1, 1, 1, 1,
            0, 1, 1, 1, 0, 0, 0, 0, 1, 1,
            0, 0, 0, 0, 0, 0, 0, 0, 2, 1,
            2, 1, 1, 0, 0, 0, 0, 0, 0, 1,
            0};

        private final Cells data;
        private final Cells returns;
        private final Calls calls;
        private final Memory memory;
        private final Out out;
        private final Text text;
        private final Words words;

        Primitives(Cells data, Cells returns, Calls calls, Memory memory, Out out, Text text,
                Words words) {
            this.data = data;
            this.returns = returns;
            this.calls = calls;
            this.memory = memory;
            this.out = out;
            this.text = text;
            this.words = words;
        }

        static boolean isToken(int token) {
            return token >= PRIMITIVES_FROM && token < PRIMITIVES_FROM + COUNT;
        }

        int perform(int p) {
            if (p < 0 || p >= COUNT) {
                return NOT_VALID;
            }
            int refused = refusal(p);
            if (refused != FINE) {
                return refused;
            }
            if (p <= TWO_DROP) {
                return shuffle(p);
            }
            if (p >= DIVIDE && p <= MULTIPLY_DIVIDE) {
                return divide(p);
            }
            if (p <= IS_BELOW_ZERO) {
                return calculate(p);
            }
            if (isForBodies(p)) {
                return useReturns(p);
            }
            if (p <= BASE) {
                return useMemory(p);
            }
            if (p <= SPACE) {
                return say(p);
            }
            switch (p) {
                case THROW: return data.take();
                case ALLOCATE: return allocate();
                case FREE: return free();
                case RESIZE: return resize();
                case TICK: return tick();
                case IMMEDIATE: return makeImmediate();
                default: return define(p);
            }
        }

        /** Those of the faults that come first, in their order. */
        private int refusal(int p) {
            if (isForBodies(p) && !calls.topIsBody()) {
                return ONLY_COMPILING;
            }
            if (!data.has(TAKES[p])) {
                return STACK_SHORT;
            }
            int own = calls.ownReturns(returns.size());
            if (own < ownReturnsNeeded(p) || p == EXIT && own != 0) {
                return RETURN_SHORT;
            }
            if (!data.hasRoomFor(LEAVES[p] - TAKES[p])) {
                return STACK_FULL;
            }
            return p == TO_RETURN && !returns.hasRoomFor(1) ? STACK_FULL : FINE;
        }

        private static boolean isForBodies(int p) {
            return p >= TO_RETURN && p <= READ_RETURN || p >= I && p <= EXIT;
        }

        private static int ownReturnsNeeded(int p) {
            switch (p) {
                case FROM_RETURN:
                case READ_RETURN: return 1;
                case I:
                case UNLOOP: return 2;
                case J: return 4;
                default: return 0;
            }
        }

        private int shuffle(int p) {
            switch (p) {
                case DUP: return put(data.at(0));
                case DROP: return dropped(1);
                case SWAP: return swap();
                case OVER: return put(data.at(1));
                case ROT: return rot();
                case NIP: return nip();
                case TUCK: return tuck();
                case MAYBE_DUP: return maybeDup();
                case PICK: return pickCell();
                case DEPTH: return put(data.size());
                case TWO_DUP: return twoDup();
                default: return dropped(2);
            }
        }

        private int put(int a) {
            data.put(a);
            return FINE;
        }

        private int dropped(int n) {
            data.drop(n);
            return FINE;
        }

        private int swap() {
            int b = data.at(0);
            data.set(0, data.at(1));
            data.set(1, b);
            return FINE;
        }

        private int rot() {
            int a = data.at(2);
            data.set(2, data.at(1));
            data.set(1, data.at(0));
            data.set(0, a);
            return FINE;
        }

        private int nip() {
            int b = data.take();
            data.set(0, b);
            return FINE;
        }

        private int tuck() {
            swap();
            return put(data.at(1));
        }

        private int maybeDup() {
            if (data.at(0) == 0) {
                return FINE;
            }
            return data.hasRoomFor(1) ? put(data.at(0)) : STACK_FULL;
        }

        private int pickCell() {
            int n = data.at(0);
            if (n < 0 || n >= data.size() - 1) {
                return STACK_SHORT;
            }
            data.set(0, data.at(n + 1));
            return FINE;
        }

        private int twoDup() {
            put(data.at(1));
            return put(data.at(1));
        }

        private int divide(int p) {
            int divisor = data.at(0);
            if (divisor == 0) {
                return BY_ZERO;
            }
            data.drop(1);
            int b = data.take();
            switch (p) {
                case DIVIDE: return put(Math.floorDiv(b, divisor));
                case MOD: return put(Math.floorMod(b, divisor));
                case DIVIDE_MOD:
                    data.put(Math.floorMod(b, divisor));
                    return put(Math.floorDiv(b, divisor));
                default: return put((int) Math.floorDiv((long) data.take() * b, (long) divisor));
            }
        }

        private int calculate(int p) {
            if (TAKES[p] == 1) {
                data.set(0, ofOne(p, data.at(0)));
                return FINE;
            }
            int b = data.take();
            int a = data.at(0);
            data.set(0, p >= SAME ? flag(compare(p, a, b)) : ofTwo(p, a, b));
            return FINE;
        }

        private static int flag(boolean is) {
            return is ? -1 : 0;
        }

        private static int ofOne(int p, int a) {
            switch (p) {
                case NEGATE: return -a;
                case ABS: return a < 0 ? -a : a;
                case ONE_MORE: return a + 1;
                case ONE_LESS: return a - 1;
                case TWICE: return a << 1;
                case HALF: return a >> 1;
                case INVERT: return ~a;
                case IS_ZERO: return flag(a == 0);
                default: return flag(a < 0);
            }
        }

        private static int ofTwo(int p, int a, int b) {
            switch (p) {
                case ADD: return a + b;
                case SUBTRACT: return a - b;
                case MULTIPLY: return a * b;
                case MIN: return a < b ? a : b;
                case MAX: return a > b ? a : b;
                case AND: return a & b;
                case OR: return a | b;
                case XOR: return a ^ b;
                case LSHIFT: return b < 0 || b > 31 ? 0 : a << b;
                default: return b < 0 || b > 31 ? 0 : a >>> b;
            }
        }

        private static boolean compare(int p, int a, int b) {
            switch (p) {
                case SAME: return a == b;
                case DIFFERENT: return a != b;
                case LESS: return a < b;
                case GREATER: return a > b;
                default: return Integer.compareUnsigned(a, b) < 0;
            }
        }

        private int useReturns(int p) {
            switch (p) {
                case TO_RETURN:
                    returns.put(data.take());
                    return FINE;
                case FROM_RETURN: return put(returns.take());
                case READ_RETURN:
                case I: return put(returns.at(0));
                case J: return put(returns.at(2));
                case UNLOOP:
                    returns.drop(2);
                    return FINE;
                default:
                    calls.end();
                    return FINE;
            }
        }

        private int useMemory(int p) {
            switch (p) {
                case READ: return read();
                case WRITE: return write(0);
                case ADD_TO: return write(memory.read(data.at(0)));
                case COMMA: return comma();
                case ALLOT: return allot();
                case HERE: return put(memory.here());
                default: return put(0);
            }
        }

        private int read() {
            if (!memory.isValid(data.at(0))) {
                return NOT_VALID;
            }
            data.set(0, memory.read(data.at(0)));
            return FINE;
        }

        private int write(int more) {
            if (!memory.isValid(data.at(0))) {
                return NOT_VALID;
            }
            int cell = data.take();
            memory.write(cell, data.take() + more);
            return FINE;
        }

        private int comma() {
            if (memory.isFull()) {
                return NO_ROOM;
            }
            memory.comma(data.take());
            return FINE;
        }

        private int allot() {
            if (!memory.canAllot(data.at(0))) {
                return NO_ROOM;
            }
            memory.allot(data.take());
            return FINE;
        }

        private int say(int p) {
            int refused = said(p, data.at(0));
            if (refused == FINE) {
                data.drop(TAKES[p]);
            }
            return refused;
        }

        private int said(int p, int a) {
            switch (p) {
                case SAY: return out.saidNumber(a, memory.base());
                case SAY_UNSIGNED: return out.saidNumber(a & 0xffffffffL, memory.base());
                case EMIT: return out.saidByte(a);
                case CR: return out.saidByte('\n');
                default: return out.saidByte(' ');
            }
        }

        private int allocate() {
            int block = memory.allocate(data.at(0));
            data.set(0, block);
            return put(block == 0 ? NOT_ALLOCATED : 0);
        }

        private int free() {
            data.set(0, memory.free(data.at(0)) ? 0 : NOT_FREED);
            return FINE;
        }

        private int resize() {
            int place = memory.resize(data.at(1), data.at(0));
            if (place == 0) {
                data.set(0, NOT_RESIZED);
                return FINE;
            }
            data.set(1, place);
            data.set(0, 0);
            return FINE;
        }

        private int define(int p) {
            text.readWord();
            long name = text.name();
            if (name == 0) {
                return NO_NAME;
            }
            if (words.isFull() || p == VARIABLE && memory.isFull()) {
                return NO_ROOM;
            }
            words.add(newWord(p, name));
            if (p == VARIABLE) {
                memory.comma(0);
            }
            return FINE;
        }

        private Word newWord(int p, long name) {
            switch (p) {
                case CONSTANT: return new Word(name, Word.CONSTANT, data.take(), null);
                case MARKER: return new Word(name, Word.MARKER, memory.here(), null);
                default: return new Word(name, Word.CREATED, memory.here(), null);
            }
        }

        private int tick() {
            if (!text.readWord()) {
                return NO_NAME;
            }
            int found = words.lookUp(text, memory.base());
            return Words.isToken(found) ? put(found) : NOT_FOUND;
        }

        private int makeImmediate() {
            Word latest = words.latest();
            if (latest != null) {
                latest.immediate = true;
            }
            return FINE;
        }
    }
}
