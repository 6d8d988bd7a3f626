import java.util.Arrays;

/**
 * A press for programs: it reads a small language, runs it as it stands, makes code of
 * registers from it, improves that code and gives its registers colours.
 */
public final class WhilePress {
    public static final int NONE = -1;
    public static final int TOO_MUCH = -7;

    // The limits of the document.
    private static final int TAPE_LIMIT = 3000;
    private static final int OPEN_LIMIT = 24;
    private static final int NAME_LENGTH = 8;
    private static final int ROW_LIMIT = 8;
    private static final int CELL_LIMIT = 100;
    private static final int LIST_LIMIT = 6;
    private static final int DEF_LIMIT = 15;
    private static final int INPUT_LIMIT = 200;
    private static final int PRINT_LIMIT = 300;
    private static final int FUEL_LIMIT = 100000;
    private static final int CODE_LIMIT = 400;
    private static final int REGISTER_LIMIT = 300;

    // A NAME and what parts it from the next one are two bytes at least.
    private static final int NAME_LIMIT = TAPE_LIMIT / 2;
    private static final int SLOT_LIMIT = 2 * NAME_LIMIT;
    // No word leaves more steps than it has bytes, but for the end's HALT.
    private static final int STEP_LIMIT = TAPE_LIMIT + 2;
    // 24 open brackets, and the ten strengths of signs within each of them.
    private static final int PENDING_LIMIT = 400;
    // Far above what any call can need: a bound for loops that end by themselves.
    private static final int TURN_LIMIT = 1000000;
    // One statement may call a def of ints alone some 400 times, and that may have some 750 of them.
    private static final long STEPS_PER_FUEL = 1000000;

    // The OPs of the code; the text's steps and the binary signs have the same numbers.
    private static final int SET = 0;
    private static final int COPY = 1;
    private static final int ADD = 2;
    private static final int LESSEN = 3;
    private static final int TIMES = 4;
    private static final int DIVIDE = 5;
    private static final int REST = 6;
    private static final int BIT_AND = 7;
    private static final int BIT_OR = 8;
    private static final int BIT_XOR = 9;
    private static final int SHIFT_UP = 10;
    private static final int SHIFT_DOWN = 11;
    private static final int SAME = 12;
    private static final int OTHER = 13;
    private static final int BELOW = 14;
    private static final int AT_MOST = 15;
    private static final int ABOVE = 16;
    private static final int AT_LEAST = 17;
    private static final int NEGATE = 18;
    private static final int NOT = 19;
    private static final int TURN_BITS = 20;
    private static final int LOAD = 21;
    private static final int STORE = 22;
    private static final int TAKE = 23;
    private static final int SHOW = 24;
    private static final int JUMP = 25;
    private static final int ZERO = 26;
    private static final int MANY = 27;
    private static final int HALT = 28;

    // Steps that the text alone has; 0 and 1 push where the code's SET and COPY lay.
    private static final int PUSH_NUMBER = 0;
    private static final int PUSH_NAME = 1;
    private static final int ASSIGN = 29;
    private static final int TELL_INT = 30;
    private static final int TICK = 31;
    private static final int CALL = 32;
    private static final int RETURN = 33;
    private static final int DEF_END = 34;
    private static final int DROP = 35;
    private static final int AND_STEP = 36;
    private static final int OR_STEP = 37;
    private static final int TRUTH = 38;

    // Kinds of words; 2 to 17 are the binary signs, by their OP, 19 and 20 are ! and ~.
    private static final int AND = 21;
    private static final int OR = 22;
    private static final int LEFT_ROUND = 23;
    private static final int RIGHT_ROUND = 24;
    private static final int LEFT_BRACE = 25;
    private static final int RIGHT_BRACE = 26;
    private static final int LEFT_SQUARE = 27;
    private static final int RIGHT_SQUARE = 28;
    private static final int COMMA = 29;
    private static final int SEMICOLON = 30;
    private static final int EQUALS = 31;
    private static final int NUMBER = 32;
    private static final int NAME = 33;
    private static final int END = 34;
    private static final int BAD = 35;
    private static final int KEY_BREAK = 36;
    private static final int KEY_DEF = 37;
    private static final int KEY_DO = 38;
    private static final int KEY_ELSE = 39;
    private static final int KEY_IF = 40;
    private static final int KEY_INT = 41;
    private static final int KEY_NEXT = 42;
    private static final int KEY_PRINT = 43;
    private static final int KEY_READ = 44;
    private static final int KEY_RETURN = 45;
    private static final int KEY_ROW = 46;
    private static final int KEY_WHILE = 47;
    private static final int STOP = 48;

    // break def do else if int next print read return row while, eight bits a letter.
    private static final long[] KEYS = {
        0x627265616bL, 0x646566L, 0x646fL, 0x656c7365L, 0x6966L, 0x696e74L,
        0x6e657874L, 0x7072696e74L, 0x72656164L, 0x72657475726eL, 0x726f77L, 0x7768696c65L
    };

    // What may be pending in an expr beside signs (those by their kinds; 18 is - before).
    private static final int BASE = 23;
    private static final int BRACKET = 24;
    private static final int INDEX = 25;
    private static final int LIST = 26;
    private static final int[] STRENGTH = {
        0, 0, 9, 9, 10, 10, 10, 5, 3, 4, 8, 8, 6, 6, 7, 7, 7, 7, 11, 11, 11, 2, 1, 0, 0, 0, 0
    };

    private static final int FAULT_WORD = 1;
    private static final int FAULT_FIT = 2;
    private static final int FAULT_NAME = 3;
    private static final int FAULT_TOLD = 4;
    private static final int FAULT_OPEN = 5;
    private static final int FAULT_SIZE = 6;

    private static final int GOING = -1;
    private static final int END_DONE = 0;
    private static final int END_DIVIDED = 4;
    private static final int END_INPUT = 5;
    private static final int END_FUEL = 6;
    private static final int END_CELL = 7;
    private static final int END_PRINTS = 8;

    private static final int FIRST_FIXED = 1;
    private static final int SECOND_FIXED = 2;

    private static final long UNKNOWN = Long.MIN_VALUE;
    private static final int FACT_WORDS = 7;
    private static final int LIVE_WORDS = 5;

    private final int[] tape = new int[TAPE_LIMIT];
    private int tapeSize;
    private final Reader reader = new Reader();
    private Script script = new Script();
    private Script spare = new Script();
    private boolean wasRead;
    private int faultPlace = NONE;
    private final Maker maker = new Maker();
    private final Code plain = new Code();
    private boolean wasLowered;
    private final Lives plainLives = new Lives();
    private final Knowledge knowledge = new Knowledge();
    private boolean knowsPlain;
    private final Improver improver = new Improver(knowledge);
    private final Code better = new Code();
    private boolean wasImproved;
    private final Runner runner = new Runner();

    public WhilePress() {
        tapeSize = 0;
    }

    public int feed(long row, int n) throws IllegalArgumentException, IllegalStateException {
        if (n < 1 || n > 8) {
            throw new IllegalArgumentException("n");
        }
        for (int k = 0; k < n; k++) {
            int b = (int) (row >>> 8 * k) & 255;
            if (b != 10 && (b < 32 || b > 126)) {
                throw new IllegalArgumentException("byte");
            }
        }
        if (tapeSize + n > TAPE_LIMIT) {
            throw new IllegalStateException("tape");
        }
        for (int k = 0; k < n; k++) {
            tape[tapeSize] = (int) (row >>> 8 * k) & 255;
            tapeSize++;
        }
        return tapeSize;
    }

    public int read() {
        reader.begin(tape, tapeSize, spare);
        tapeSize = 0;
        for (int left = TAPE_LIMIT; left > 0 && reader.isAtDecl(); left--) {
            int kind = reader.kind();
            if (kind == KEY_DEF) {
                reader.define();
            } else if (kind == KEY_ROW) {
                reader.tellRow();
            } else {
                reader.tellInts(true);
            }
        }
        reader.beginStatements();
        for (int left = TAPE_LIMIT; left > 0 && reader.hasMore(); left--) {
            reader.statement(true);
        }
        int fault = reader.finish();
        faultPlace = reader.faultPlace;
        if (fault != 0) {
            return -fault;
        }
        Script old = script;
        script = spare;
        spare = old;
        wasRead = true;
        wasLowered = false;
        wasImproved = false;
        return reader.statements;
    }

    public int place() {
        return faultPlace;
    }

    public int lower() throws IllegalStateException {
        if (!wasRead) {
            throw new IllegalStateException("nothing read");
        }
        wasImproved = false;
        knowsPlain = false;
        wasLowered = maker.make(script, plain);
        if (!wasLowered) {
            return TOO_MUCH;
        }
        plainLives.find(plain);
        return plain.count;
    }

    public int improve() throws IllegalStateException {
        if (!wasLowered) {
            throw new IllegalStateException("nothing lowered");
        }
        if (!wasImproved) {
            knowsPlain = false;
            improver.press(plain, better);
            wasImproved = true;
        }
        return better.count;
    }

    public int code(boolean improved, int i, int what) throws IndexOutOfBoundsException, IllegalStateException {
        if (improved ? !wasImproved : !wasLowered) {
            throw new IllegalStateException("no such code");
        }
        Code of = improved ? better : plain;
        if (i < 0 || i >= of.count || what < 0 || what > 4) {
            throw new IndexOutOfBoundsException("instruction");
        }
        switch (what) {
            case 0: return of.ops[i];
            case 1: return of.ds[i];
            case 2: return of.as[i];
            case 3: return of.bs[i];
            default: return of.forms[i];
        }
    }

    public boolean isKnown(int i, int register) throws IndexOutOfBoundsException, IllegalStateException {
        return knownBefore(i, register) != UNKNOWN;
    }

    public int known(int i, int register) throws IndexOutOfBoundsException, IllegalStateException {
        long number = knownBefore(i, register);
        return number == UNKNOWN ? 0 : (int) number;
    }

    private long knownBefore(int i, int register) {
        if (!wasLowered) {
            throw new IllegalStateException("nothing lowered");
        }
        if (i < 0 || i >= plain.count || register < 0 || register >= plain.registers) {
            throw new IndexOutOfBoundsException("instruction or register");
        }
        // improve() uses the same table, so that it may have to be filled again.
        if (!knowsPlain) {
            knowledge.learn(plain);
            knowsPlain = true;
        }
        return knowledge.before(plain, i, register);
    }

    public boolean isLive(boolean improved, int i, int register) throws IndexOutOfBoundsException, IllegalStateException {
        if (improved ? !wasImproved : !wasLowered) {
            throw new IllegalStateException("no such code");
        }
        Code of = improved ? better : plain;
        if (i < 0 || i >= of.count || register < 0 || register >= of.registers) {
            throw new IndexOutOfBoundsException("instruction or register");
        }
        return improved ? improver.lives.isBehind(i, register) : plainLives.isBehind(i, register);
    }

    public int colour(int register) throws IndexOutOfBoundsException, IllegalStateException {
        if (!wasImproved) {
            throw new IllegalStateException("nothing improved");
        }
        if (register < 0 || register >= better.registers) {
            throw new IndexOutOfBoundsException("register");
        }
        return improver.lives.colours[register];
    }

    public int input(int v) throws IllegalStateException {
        if (runner.inputSize >= INPUT_LIMIT) {
            throw new IllegalStateException("input");
        }
        runner.inputs[runner.inputSize] = v;
        runner.inputSize++;
        return runner.inputSize;
    }

    public int clear() {
        int had = runner.inputSize;
        runner.inputSize = 0;
        return had;
    }

    public int run(int which, int fuel) throws IllegalArgumentException, IllegalStateException {
        if (which < 0 || which > 3 || fuel < 0 || fuel > FUEL_LIMIT) {
            throw new IllegalArgumentException("which or fuel");
        }
        if (which == 0 ? !wasRead : which == 1 ? !wasLowered : !wasImproved) {
            throw new IllegalStateException("nothing to run");
        }
        if (which == 0) {
            return runner.goText(script, fuel);
        }
        if (which == 3) {
            return runner.goCode(better, improver.lives.colours, fuel);
        }
        return runner.goCode(which == 1 ? plain : better, runner.sameNumbers, fuel);
    }

    public int printed(int i) throws IndexOutOfBoundsException {
        if (i < 0 || i >= runner.printSize) {
            throw new IndexOutOfBoundsException("printed");
        }
        return runner.prints[i];
    }

    public int told(int what) throws IllegalArgumentException {
        switch (what) {
            case 0: return runner.printSize;
            case 1: return runner.taken;
            case 2: return runner.used;
            case 3: return wasLowered ? plain.count : 0;
            case 4: return wasLowered ? plain.registers : 0;
            case 5: return wasImproved ? better.count : 0;
            case 6: return wasImproved ? improver.lives.colourCount : 0;
            case 7: return wasImproved ? improver.rounds : 0;
            default: throw new IllegalArgumentException("what");
        }
    }

    private static boolean isDivision(int op) {
        return op == DIVIDE || op == REST;
    }

    /** The result of one of 2 to 20; a divisor is looked at before the call. */
    private static int work(int op, int x, int y) {
        switch (op) {
            case ADD: return x + y;
            case LESSEN: return x - y;
            case TIMES: return x * y;
            case DIVIDE: return y == 0 ? 0 : x / y;
            case REST: return y == 0 ? 0 : x % y;
            case BIT_AND: return x & y;
            case BIT_OR: return x | y;
            case BIT_XOR: return x ^ y;
            case SHIFT_UP: return x << (y & 31);
            case SHIFT_DOWN: return x >> (y & 31);
            case SAME: return x == y ? 1 : 0;
            case OTHER: return x != y ? 1 : 0;
            case BELOW: return x < y ? 1 : 0;
            case AT_MOST: return x <= y ? 1 : 0;
            case ABOVE: return x > y ? 1 : 0;
            case AT_LEAST: return x >= y ? 1 : 0;
            case NEGATE: return -x;
            case NOT: return x == 0 ? 1 : 0;
            case TURN_BITS: return ~x;
            default: return 0;
        }
    }

    /** The words of a tape, up to the first that can't be or an END behind the last byte. */
    private static final class Words {
        final int[] kinds = new int[TAPE_LIMIT + 1];
        final int[] places = new int[TAPE_LIMIT + 1];
        final long[] values = new long[TAPE_LIMIT + 1];
        int count;
        private int[] bytes;
        private int size;

        void split(int[] tape, int tapeSize) {
            bytes = tape;
            size = tapeSize;
            count = 0;
            int at = 0;
            // Each turn goes on by a byte at least.
            for (int left = size; left > 0 && at < size; left--) {
                int b = bytes[at];
                if (b == ' ' || b == '\n') {
                    at++;
                } else if (isLetter(b)) {
                    at = takeName(at);
                } else if (isFigure(b)) {
                    at = takeNumber(at);
                } else {
                    at = takeSign(at);
                }
            }
            if (count == 0 || kinds[count - 1] != BAD) {
                add(END, size, 0);
            }
        }

        private static boolean isLetter(int b) {
            return b >= 'a' && b <= 'z';
        }

        private static boolean isFigure(int b) {
            return b >= '0' && b <= '9';
        }

        private void add(int kind, int place, long value) {
            if (count < kinds.length) {
                kinds[count] = kind;
                places[count] = place;
                values[count] = value;
                count++;
            }
        }

        /** Nothing behind a bad word is looked at: the first place is the one that is told. */
        private int stopAt(int place) {
            add(BAD, place, 0);
            return size;
        }

        private int takeName(int from) {
            int to = from;
            long text = 0;
            while (to < size && (isLetter(bytes[to]) || isFigure(bytes[to]))) {
                text = text << 8 | bytes[to];
                to++;
            }
            if (to - from > NAME_LENGTH) {
                return stopAt(from);
            }
            int kind = NAME;
            for (int k = 0; k < KEYS.length; k++) {
                if (KEYS[k] == text) {
                    kind = KEY_BREAK + k;
                }
            }
            add(kind, from, text);
            return to;
        }

        private int takeNumber(int from) {
            int to = from;
            long number = 0;
            while (to < size && isFigure(bytes[to])) {
                number = number * 10 + (bytes[to] - '0');
                if (number > Integer.MAX_VALUE) {
                    return stopAt(from);
                }
                to++;
            }
            add(NUMBER, from, number);
            return to;
        }

        private int takeSign(int from) {
            int next = from + 1 < size ? bytes[from + 1] : 0;
            int kind = longSign(bytes[from], next);
            if (kind != NONE) {
                add(kind, from, 0);
                return from + 2;
            }
            kind = shortSign(bytes[from]);
            if (kind == NONE) {
                return stopAt(from);
            }
            add(kind, from, 0);
            return from + 1;
        }

        private static int longSign(int first, int next) {
            if (next == '=') {
                switch (first) {
                    case '<': return AT_MOST;
                    case '>': return AT_LEAST;
                    case '=': return SAME;
                    case '!': return OTHER;
                    default: return NONE;
                }
            }
            if (first != next) {
                return NONE;
            }
            switch (first) {
                case '<': return SHIFT_UP;
                case '>': return SHIFT_DOWN;
                case '&': return AND;
                case '|': return OR;
                default: return NONE;
            }
        }

        private static int shortSign(int b) {
            switch (b) {
                case '(': return LEFT_ROUND;
                case ')': return RIGHT_ROUND;
                case '{': return LEFT_BRACE;
                case '}': return RIGHT_BRACE;
                case '[': return LEFT_SQUARE;
                case ']': return RIGHT_SQUARE;
                case ',': return COMMA;
                case ';': return SEMICOLON;
                case '=': return EQUALS;
                case '+': return ADD;
                case '-': return LESSEN;
                case '*': return TIMES;
                case '/': return DIVIDE;
                case '%': return REST;
                case '&': return BIT_AND;
                case '|': return BIT_OR;
                case '^': return BIT_XOR;
                case '~': return TURN_BITS;
                case '!': return NOT;
                case '<': return BELOW;
                case '>': return ABOVE;
                default: return NONE;
            }
        }
    }

    /** The NAMES that are seen, the innermost block's last. */
    private static final class Names {
        static final int AN_INT = 0;
        static final int A_ROW = 1;
        static final int A_DEF = 2;

        private final long[] texts = new long[NAME_LIMIT];
        private final int[] kinds = new int[NAME_LIMIT];
        private final int[] numbers = new int[NAME_LIMIT];
        int count;
        int base;

        void forget() {
            count = 0;
            base = 0;
        }

        /** The number of the NAME, if it is of the kind; else NONE. */
        int find(long text, int kind) {
            for (int i = count - 1; i >= 0; i--) {
                if (texts[i] == text) {
                    return kinds[i] == kind ? numbers[i] : NONE;
                }
            }
            return NONE;
        }

        boolean isInBlock(long text) {
            for (int i = base; i < count; i++) {
                if (texts[i] == text) {
                    return true;
                }
            }
            return false;
        }

        void tell(long text, int kind, int number) {
            if (count < NAME_LIMIT) {
                texts[count] = text;
                kinds[count] = kind;
                numbers[count] = number;
                count++;
            }
        }
    }

    /** A program as steps on a stack: what a run of the TEXT and the lowering go by. */
    private static final class Script {
        final int[] ops = new int[STEP_LIMIT];
        final int[] args = new int[STEP_LIMIT];
        // The && and || whose left side begins at a step, the outermost first.
        final int[] wraps = new int[STEP_LIMIT];
        final int[] wrapNext = new int[STEP_LIMIT];
        int count;
        int start;
        int globals;
        int locals;
        int rows;
        final int[] cells = new int[ROW_LIMIT];
        int defs;
        final int[] defBegins = new int[DEF_LIMIT];
        final int[] defEnds = new int[DEF_LIMIT];
        final int[] defFirsts = new int[DEF_LIMIT];
        final int[] defNames = new int[DEF_LIMIT];

        void forget() {
            count = 0;
            start = 0;
            globals = 0;
            locals = 0;
            rows = 0;
            defs = 0;
        }

        int add(int op, int arg) {
            if (count >= STEP_LIMIT) {
                return STEP_LIMIT - 1;
            }
            ops[count] = op;
            args[count] = arg;
            wraps[count] = NONE;
            wrapNext[count] = NONE;
            count++;
            return count - 1;
        }

        void wrap(int begin, int step) {
            if (begin < step) {
                wrapNext[step] = wraps[begin];
                wraps[begin] = step;
            }
        }

        /** Jumps that wait for one aim are a chain through their args. */
        void aim(int chain, int target) {
            int step = chain;
            for (int left = STEP_LIMIT; left > 0 && step >= 0; left--) {
                int next = args[step];
                args[step] = target;
                step = next;
            }
        }

        int takeGlobal() {
            if (globals < NAME_LIMIT - 1) {
                globals++;
            }
            return globals - 1;
        }

        int takeLocal() {
            if (locals < NAME_LIMIT - 1) {
                locals++;
            }
            return NAME_LIMIT + locals - 1;
        }
    }

    /** Reads words as a program; behind its first hard fault every word is a STOP. */
    private static final class Reader {
        private final Words words = new Words();
        private final Names names = new Names();
        private Script script;
        private int at;
        private boolean stopped;
        private int fault;
        int faultPlace;
        private boolean isSoft;
        private int open;
        int statements;
        private int defNow;
        private boolean inLoop;
        private int breaks;
        private int nexts;
        private final int[] pendingKinds = new int[PENDING_LIMIT];
        private final int[] pendingBegins = new int[PENDING_LIMIT];
        private final int[] pendingNumbers = new int[PENDING_LIMIT];
        private final int[] pendingExprs = new int[PENDING_LIMIT];
        private final int[] pendingNames = new int[PENDING_LIMIT];
        private int pending;

        void begin(int[] tape, int size, Script target) {
            words.split(tape, size);
            names.forget();
            script = target;
            script.forget();
            at = 0;
            stopped = false;
            fault = 0;
            faultPlace = NONE;
            isSoft = true;
            open = 0;
            statements = 0;
            defNow = NONE;
            inLoop = false;
            breaks = NONE;
            nexts = NONE;
        }

        int finish() {
            script.add(HALT, 0);
            return fault;
        }

        int kind() {
            return stopped || at >= words.count ? STOP : words.kinds[at];
        }

        private int nextKind() {
            return stopped || at + 1 >= words.count ? STOP : words.kinds[at + 1];
        }

        private void go() {
            if (!stopped) {
                at++;
            }
        }

        boolean isAtDecl() {
            int kind = kind();
            return kind == KEY_INT || kind == KEY_ROW || kind == KEY_DEF;
        }

        boolean hasMore() {
            return !stopped && kind() != END;
        }

        /** The word does not fit; nothing behind it counts any more. */
        private void misfit() {
            if (!stopped && at < words.count) {
                stopped = true;
                isSoft = false;
                fault = words.kinds[at] == BAD ? FAULT_WORD : FAULT_FIT;
                faultPlace = words.places[at];
            }
        }

        private void expect(int wanted) {
            if (kind() == wanted) {
                go();
            } else {
                misfit();
            }
        }

        /** The word at hand begins to stand open. */
        private void openOne() {
            open++;
            if (open > OPEN_LIMIT && !stopped) {
                stopped = true;
                isSoft = false;
                fault = FAULT_OPEN;
                faultPlace = words.places[at];
            }
        }

        /** A fault that counts only if no hard one comes: the first place, then the least. */
        private void soften(int number, int word) {
            int place = words.places[word];
            if (isSoft && (fault == 0 || place < faultPlace || place == faultPlace && number < fault)) {
                fault = number;
                faultPlace = place;
            }
        }

        /** Tells the NAME at hand in the block at hand. */
        private void tellName(int kind, int number) {
            long text = words.values[at];
            if (names.isInBlock(text)) {
                soften(FAULT_TOLD, at);
            }
            names.tell(text, kind, number);
        }

        void tellInts(boolean isDecl) {
            boolean more = true;
            for (int left = words.count; left > 0 && more; left--) {
                go();
                if (kind() != NAME) {
                    misfit();
                    return;
                }
                int slot = isDecl ? script.takeGlobal() : script.takeLocal();
                if (!isDecl) {
                    script.add(TELL_INT, slot);
                }
                tellName(Names.AN_INT, slot);
                go();
                more = kind() == COMMA;
            }
            expect(SEMICOLON);
        }

        void tellRow() {
            go();
            if (kind() != NAME) {
                misfit();
                return;
            }
            tellName(Names.A_ROW, Math.min(script.rows, ROW_LIMIT - 1));
            if (script.rows == ROW_LIMIT) {
                soften(FAULT_SIZE, at);
            }
            go();
            if (kind() == LEFT_SQUARE) {
                openOne();
            }
            expect(LEFT_SQUARE);
            if (kind() != NUMBER) {
                misfit();
                return;
            }
            long cells = words.values[at];
            if (cells < 1 || cells > CELL_LIMIT) {
                soften(FAULT_SIZE, at);
            }
            if (script.rows < ROW_LIMIT) {
                script.cells[script.rows] = (int) cells;
                script.rows++;
            }
            go();
            expect(RIGHT_SQUARE);
            open--;
            expect(SEMICOLON);
        }

        void define() {
            go();
            if (kind() != NAME) {
                misfit();
                return;
            }
            int name = at;
            if (names.isInBlock(words.values[name])) {
                soften(FAULT_TOLD, name);
            }
            if (script.defs == DEF_LIMIT) {
                soften(FAULT_SIZE, name);
            } else {
                script.defs++;
            }
            int def = script.defs - 1;
            int outside = names.count;
            names.base = outside;
            go();
            tellList(def);
            defNow = def;
            script.defBegins[def] = script.count;
            takeItems();
            script.defEnds[def] = script.add(DEF_END, def);
            defNow = NONE;
            names.count = outside;
            names.base = 0;
            names.tell(words.values[name], Names.A_DEF, def);
        }

        private void tellList(int def) {
            script.defFirsts[def] = NAME_LIMIT + script.locals;
            script.defNames[def] = 0;
            openRound();
            boolean more = kind() != RIGHT_ROUND;
            for (int left = words.count; left > 0 && more; left--) {
                if (kind() != NAME) {
                    misfit();
                    return;
                }
                if (script.defNames[def] == LIST_LIMIT) {
                    soften(FAULT_SIZE, at);
                } else {
                    script.defNames[def]++;
                }
                tellName(Names.AN_INT, script.takeLocal());
                go();
                more = kind() == COMMA;
                if (more) {
                    go();
                }
            }
            closeRound();
        }

        void beginStatements() {
            names.base = names.count;
            script.start = script.count;
        }

        /** Open calls: at most some three for each word of the 24 that may stand open. */
        void statement(boolean isItem) {
            statements++;
            switch (kind()) {
                case LEFT_BRACE:
                    takeBlock();
                    break;
                case KEY_INT:
                    if (isItem) {
                        tellInts(false);
                    } else {
                        misfit();
                    }
                    break;
                case KEY_IF:
                    takeIf();
                    break;
                case KEY_WHILE:
                    takeWhile();
                    break;
                case KEY_DO:
                    takeDo();
                    break;
                case NAME:
                    takeNamed(nextKind());
                    break;
                default:
                    takeSimple();
            }
        }

        private void takeBlock() {
            int outside = names.count;
            int outerBase = names.base;
            names.base = outside;
            takeItems();
            names.count = outside;
            names.base = outerBase;
        }

        private void takeItems() {
            if (kind() == LEFT_BRACE) {
                openOne();
            }
            expect(LEFT_BRACE);
            for (int left = words.count; left > 0 && !stopped && kind() != RIGHT_BRACE; left--) {
                statement(true);
            }
            expect(RIGHT_BRACE);
            open--;
        }

        private void openRound() {
            if (kind() == LEFT_ROUND) {
                openOne();
            }
            expect(LEFT_ROUND);
        }

        private void closeRound() {
            expect(RIGHT_ROUND);
            open--;
        }

        private void takeIf() {
            script.add(TICK, 0);
            openOne();
            go();
            openRound();
            takeExpr(false);
            closeRound();
            int skip = script.add(ZERO, 0);
            statement(false);
            if (kind() == KEY_ELSE) {
                openOne();
                go();
                int end = script.add(JUMP, 0);
                script.args[skip] = script.count;
                statement(false);
                script.args[end] = script.count;
                open--;
            } else {
                script.args[skip] = script.count;
            }
            open--;
        }

        private void takeWhile() {
            boolean outerLoop = inLoop;
            int outerBreaks = breaks;
            int outerNexts = nexts;
            script.add(TICK, 0);
            openOne();
            go();
            int test = script.add(TICK, 0);
            openRound();
            takeExpr(false);
            closeRound();
            int leave = script.add(ZERO, 0);
            inLoop = true;
            breaks = NONE;
            nexts = NONE;
            statement(false);
            open--;
            script.add(JUMP, test);
            script.args[leave] = script.count;
            script.aim(breaks, script.count);
            script.aim(nexts, test);
            inLoop = outerLoop;
            breaks = outerBreaks;
            nexts = outerNexts;
        }

        private void takeDo() {
            boolean outerLoop = inLoop;
            int outerBreaks = breaks;
            int outerNexts = nexts;
            script.add(TICK, 0);
            openOne();
            go();
            int first = script.count;
            inLoop = true;
            breaks = NONE;
            nexts = NONE;
            statement(false);
            open--;
            expect(KEY_WHILE);
            int test = script.add(TICK, 0);
            openRound();
            takeExpr(false);
            closeRound();
            script.add(MANY, first);
            expect(SEMICOLON);
            script.aim(breaks, script.count);
            script.aim(nexts, test);
            inLoop = outerLoop;
            breaks = outerBreaks;
            nexts = outerNexts;
        }

        private void takeSimple() {
            script.add(TICK, 0);
            switch (kind()) {
                case KEY_BREAK:
                    breaks = takeLeave(breaks);
                    break;
                case KEY_NEXT:
                    nexts = takeLeave(nexts);
                    break;
                case KEY_RETURN:
                    if (defNow == NONE) {
                        soften(FAULT_NAME, at);
                    }
                    go();
                    takeExpr(false);
                    script.add(RETURN, Math.max(defNow, 0));
                    break;
                case KEY_PRINT:
                    go();
                    takeExpr(false);
                    script.add(SHOW, 0);
                    break;
                case KEY_READ:
                    takeRead();
                    break;
                default:
                    misfit();
            }
            expect(SEMICOLON);
        }

        private int takeLeave(int chain) {
            if (!inLoop) {
                soften(FAULT_NAME, at);
            }
            go();
            return script.add(JUMP, chain);
        }

        private void takeRead() {
            go();
            if (kind() != NAME) {
                misfit();
                return;
            }
            int slot = wanted(at, Names.AN_INT);
            go();
            script.add(TAKE, slot);
        }

        /** The number of a NAME; 0 when it is a fault, the steps are of no use then. */
        private int wanted(int name, int kind) {
            int number = names.find(words.values[name], kind);
            if (number == NONE) {
                soften(FAULT_NAME, name);
            }
            return Math.max(number, 0);
        }

        private void takeNamed(int next) {
            script.add(TICK, 0);
            if (next == EQUALS) {
                int slot = wanted(at, Names.AN_INT);
                go();
                go();
                takeExpr(false);
                script.add(ASSIGN, slot);
            } else if (next == LEFT_SQUARE) {
                int row = wanted(at, Names.A_ROW);
                go();
                openOne();
                go();
                takeExpr(false);
                expect(RIGHT_SQUARE);
                open--;
                expect(EQUALS);
                takeExpr(false);
                script.add(STORE, row);
            } else if (next == LEFT_ROUND) {
                takeExpr(true);
                script.add(DROP, 0);
            } else {
                go();
                misfit();
            }
            expect(SEMICOLON);
        }

        /**
         * An expr, up to the first word that is not of it: signs wait till both sides are there.
         * A call that is a statement ends behind its own bracket.
         */
        private void takeExpr(boolean isStatement) {
            pending = 0;
            pend(BASE, 0, 0);
            boolean wantsOperand = true;
            boolean more = true;
            for (int left = words.count; left > 0 && more && !stopped; left--) {
                if (wantsOperand) {
                    wantsOperand = takeOperand();
                } else {
                    int kind = kind();
                    boolean isSign = isBinary(kind);
                    settle(isSign ? STRENGTH[kind] : 1);
                    if (isSign) {
                        takeBinary(kind);
                        wantsOperand = true;
                    } else {
                        more = takeClosing(kind) && !(isStatement && pending == 1);
                        wantsOperand = kind == COMMA;
                    }
                }
            }
        }

        private static boolean isBinary(int kind) {
            return kind >= ADD && kind <= AT_LEAST || kind == AND || kind == OR;
        }

        private void pend(int kind, int number, int name) {
            if (pending < PENDING_LIMIT) {
                pendingKinds[pending] = kind;
                pendingBegins[pending] = script.count;
                pendingNumbers[pending] = number;
                pendingNames[pending] = name;
                pendingExprs[pending] = 0;
                pending++;
            }
        }

        /** Answers whether an operand is still wanted behind the word. */
        private boolean takeOperand() {
            int kind = kind();
            if (kind == NUMBER) {
                script.add(PUSH_NUMBER, (int) words.values[at]);
                go();
                return false;
            }
            if (kind != NAME && kind != LESSEN && kind != NOT && kind != TURN_BITS && kind != LEFT_ROUND) {
                misfit();
                return false;
            }
            if (kind != NAME) {
                openOne();
                pend(kind == LEFT_ROUND ? BRACKET : kind == LESSEN ? NEGATE : kind, 0, 0);
                go();
                return true;
            }
            int name = at;
            int next = nextKind();
            boolean isRow = next == LEFT_SQUARE;
            boolean isCall = next == LEFT_ROUND;
            int number = names.find(words.values[name], isRow ? Names.A_ROW : isCall ? Names.A_DEF : Names.AN_INT);
            if (number == NONE) {
                soften(FAULT_NAME, name);
            }
            go();
            if (!isRow && !isCall) {
                script.add(PUSH_NAME, Math.max(number, 0));
                return false;
            }
            openOne();
            pend(isRow ? INDEX : LIST, number, name);
            go();
            if (isCall && kind() == RIGHT_ROUND) {
                // The closing bracket counts one expr behind the last comma: here there is none.
                pendingExprs[pending - 1] = -1;
                return false;
            }
            return true;
        }

        /** Puts down the steps of pending signs that bind no weaker than the strength. */
        private void settle(int strength) {
            while (pending > 1 && STRENGTH[pendingKinds[pending - 1]] >= strength) {
                pending--;
                int kind = pendingKinds[pending];
                if (kind == AND || kind == OR) {
                    int step = pendingNumbers[pending];
                    script.add(TRUTH, step);
                    script.args[step] = script.count;
                } else {
                    script.add(kind, 0);
                    if (kind >= NEGATE) {
                        open--;
                    }
                }
            }
        }

        private void takeBinary(int kind) {
            int step = 0;
            if (kind == AND || kind == OR) {
                step = script.add(kind == AND ? AND_STEP : OR_STEP, 0);
                script.wrap(pendingBegins[pending - 1], step);
            }
            pend(kind, step, 0);
            go();
        }

        /** Answers whether the expr goes on behind the word. */
        private boolean takeClosing(int kind) {
            int last = pending - 1;
            int top = pendingKinds[last];
            if (top == BASE) {
                return false;
            }
            if (kind == COMMA && top == LIST) {
                pendingExprs[last]++;
                pendingBegins[last] = script.count;
                go();
                return true;
            }
            int number = pendingNumbers[last];
            if (kind == RIGHT_SQUARE && top == INDEX) {
                script.add(LOAD, Math.max(number, 0));
            } else if (kind == RIGHT_ROUND && top == LIST) {
                if (number != NONE && script.defNames[number] != pendingExprs[last] + 1) {
                    soften(FAULT_NAME, pendingNames[last]);
                }
                script.add(CALL, Math.max(number, 0));
            } else if (kind != RIGHT_ROUND || top != BRACKET) {
                misfit();
                return false;
            }
            pending = last;
            open--;
            go();
            return true;
        }
    }

    /** Instructions, and what is asked of them alone. */
    private static final class Code {
        final int[] ops = new int[CODE_LIMIT];
        final int[] ds = new int[CODE_LIMIT];
        final int[] as = new int[CODE_LIMIT];
        final int[] bs = new int[CODE_LIMIT];
        final int[] forms = new int[CODE_LIMIT];
        int count;
        int registers;
        private boolean isTooLong;
        final int[] cells = new int[ROW_LIMIT];
        // Whether a stretch without ways in or out begins there.
        final boolean[] isLeader = new boolean[CODE_LIMIT];
        final boolean[] isReached = new boolean[CODE_LIMIT];
        private final boolean[] isGone = new boolean[CODE_LIMIT];
        private final int[] moved = new int[CODE_LIMIT + 1];
        private final int[] open = new int[CODE_LIMIT];

        void begin(int[] rowCells) {
            count = 0;
            registers = 0;
            isTooLong = false;
            System.arraycopy(rowCells, 0, cells, 0, ROW_LIMIT);
        }

        void copyFrom(Code other) {
            begin(other.cells);
            count = other.count;
            registers = other.registers;
            System.arraycopy(other.ops, 0, ops, 0, count);
            System.arraycopy(other.ds, 0, ds, 0, count);
            System.arraycopy(other.as, 0, as, 0, count);
            System.arraycopy(other.bs, 0, bs, 0, count);
            System.arraycopy(other.forms, 0, forms, 0, count);
        }

        int takeRegister() {
            registers++;
            return registers - 1;
        }

        int add(int op, int d, int a, int b, int form) {
            if (count >= CODE_LIMIT) {
                isTooLong = true;
                return CODE_LIMIT - 1;
            }
            put(count, op, d, a, form);
            bs[count] = b;
            count++;
            return count - 1;
        }

        void put(int i, int op, int d, int a, int form) {
            ops[i] = op;
            ds[i] = d;
            as[i] = a;
            bs[i] = 0;
            forms[i] = form;
        }

        boolean fits() {
            return !isTooLong && registers <= REGISTER_LIMIT;
        }

        boolean defines(int i) {
            return ops[i] <= LOAD || ops[i] == TAKE;
        }

        boolean usesA(int i) {
            int op = ops[i];
            boolean has = op <= STORE || op == SHOW || op == ZERO || op == MANY;
            return has && (forms[i] & FIRST_FIXED) == 0;
        }

        boolean usesB(int i) {
            int op = ops[i];
            return (op >= ADD && op <= AT_LEAST || op == STORE) && (forms[i] & SECOND_FIXED) == 0;
        }

        boolean isWorkedOut(int i) {
            return ops[i] >= ADD && ops[i] <= TURN_BITS;
        }

        boolean leaps(int i) {
            return ops[i] == JUMP || ops[i] == ZERO || ops[i] == MANY;
        }

        boolean goesOn(int i) {
            return ops[i] != JUMP && ops[i] != HALT && i + 1 < count;
        }

        boolean leapsInside(int i) {
            return leaps(i) && ds[i] >= 0 && ds[i] < count;
        }

        void findLeaders() {
            for (int i = 0; i < count; i++) {
                isLeader[i] = i == 0;
            }
            for (int i = 0; i < count; i++) {
                if (leapsInside(i)) {
                    isLeader[ds[i]] = true;
                }
                if ((leaps(i) || ops[i] == HALT) && i + 1 < count) {
                    isLeader[i + 1] = true;
                }
            }
        }

        /** The last instruction of the stretch that begins at a leader. */
        int lastOf(int leader) {
            int last = leader;
            while (last + 1 < count && !isLeader[last + 1]) {
                last++;
            }
            return last;
        }

        void findReached() {
            for (int i = 0; i < count; i++) {
                isReached[i] = false;
            }
            int waiting = 0;
            if (count > 0) {
                isReached[0] = true;
                open[0] = 0;
                waiting = 1;
            }
            // Each instruction waits once at most.
            for (int left = CODE_LIMIT; left > 0 && waiting > 0; left--) {
                waiting--;
                int i = open[waiting];
                if (goesOn(i) && !isReached[i + 1]) {
                    isReached[i + 1] = true;
                    open[waiting] = i + 1;
                    waiting++;
                }
                if (leapsInside(i) && !isReached[ds[i]]) {
                    isReached[ds[i]] = true;
                    open[waiting] = ds[i];
                    waiting++;
                }
            }
        }

        void leaveOut(int i) {
            isGone[i] = true;
        }

        /** Closes the gaps of what was left out; answers whether there were any. */
        boolean sweep() {
            int left = 0;
            for (int i = 0; i < count; i++) {
                moved[i] = left;
                if (!isGone[i]) {
                    left++;
                }
            }
            moved[count] = left;
            if (left == count) {
                return false;
            }
            for (int i = 0; i < count; i++) {
                if (!isGone[i]) {
                    int d = leapsInside(i) ? moved[ds[i]] : ds[i];
                    int b = bs[i];
                    put(moved[i], ops[i], d, as[i], forms[i]);
                    bs[moved[i]] = b;
                }
                isGone[i] = false;
            }
            count = left;
            return true;
        }
    }

    /** Makes code of a program: goes by its steps, into a def at each call. */
    private static final class Maker {
        private Script script;
        private Code made;
        private int at;
        private final int[] begun = new int[STEP_LIMIT];
        private final int[] waits = new int[STEP_LIMIT];
        private final int[] truths = new int[STEP_LIMIT];
        private final int[] registers = new int[SLOT_LIMIT];
        private final int[] operands = new int[TAPE_LIMIT];
        private final int[] operandForms = new int[TAPE_LIMIT];
        private int operandCount;
        private final int[] backs = new int[DEF_LIMIT];
        private final int[] results = new int[DEF_LIMIT];
        private int calls;

        /** Answers whether the code is not too much. */
        boolean make(Script program, Code target) {
            script = program;
            made = target;
            made.begin(script.cells);
            operandCount = 0;
            calls = 0;
            Arrays.fill(waits, NONE);
            for (int i = 0; i < script.globals; i++) {
                registers[i] = made.takeRegister();
            }
            at = script.start;
            boolean more = made.fits();
            for (int left = TURN_LIMIT; left > 0 && more && at < script.count; left--) {
                arrive();
                int op = script.ops[at];
                takeStep(op, script.args[at]);
                at++;
                more = op != HALT && made.fits();
            }
            return made.fits();
        }

        /** Jumps that waited for the step come here; && and || that begin here take their T. */
        private void arrive() {
            begun[at] = made.count;
            int waiting = waits[at];
            waits[at] = NONE;
            for (int left = CODE_LIMIT; left > 0 && waiting != NONE; left--) {
                int next = made.ds[waiting];
                made.ds[waiting] = made.count;
                waiting = next;
            }
            int wrap = script.wraps[at];
            for (int left = STEP_LIMIT; left > 0 && wrap != NONE; left--) {
                truths[wrap] = made.takeRegister();
                made.add(SET, truths[wrap], script.ops[wrap] == OR_STEP ? 1 : 0, 0, FIRST_FIXED);
                wrap = script.wrapNext[wrap];
            }
        }

        private void takeStep(int op, int arg) {
            if (op >= ADD && op <= STORE) {
                takeWork(op, arg);
                return;
            }
            switch (op) {
                case PUSH_NUMBER: push(arg, FIRST_FIXED); break;
                case PUSH_NAME: pushCopy(registers[arg]); break;
                case ASSIGN: lay(registers[arg]); break;
                case TELL_INT: tellInt(arg); break;
                case CALL: call(arg); break;
                case RETURN: giveBack(arg); break;
                case DEF_END: endCall(); break;
                case DROP: pop(); break;
                case AND_STEP: test(ZERO, arg); break;
                case OR_STEP: test(MANY, arg); break;
                case ZERO: test(ZERO, arg); break;
                case MANY: test(MANY, arg); break;
                case TRUTH: endTruth(truths[arg]); break;
                case TAKE: made.add(TAKE, registers[arg], 0, 0, 0); break;
                case SHOW: show(); break;
                case JUMP: leap(JUMP, arg, 0, 0); break;
                case HALT: made.add(HALT, 0, 0, 0, 0); break;
                default: break;
            }
        }

        private void push(int operand, int form) {
            if (operandCount < TAPE_LIMIT) {
                operands[operandCount] = operand;
                operandForms[operandCount] = form;
                operandCount++;
            }
        }

        /** What was the last operand stays in its place till the next push. */
        private int pop() {
            if (operandCount > 0) {
                operandCount--;
            }
            return operandCount;
        }

        private void pushCopy(int register) {
            int t = made.takeRegister();
            made.add(COPY, t, register, 0, 0);
            push(t, 0);
        }

        private void tellInt(int slot) {
            registers[slot] = made.takeRegister();
            made.add(SET, registers[slot], 0, 0, FIRST_FIXED);
        }

        private void lay(int register) {
            int e = pop();
            made.add(operandForms[e] == FIRST_FIXED ? SET : COPY, register, operands[e], 0, operandForms[e]);
        }

        private void takeWork(int op, int row) {
            boolean hasTwo = op <= AT_LEAST || op == STORE;
            int f = hasTwo ? pop() : 0;
            int e = pop();
            int b = hasTwo ? operands[f] : op == LOAD ? row : 0;
            int form = operandForms[e] + (hasTwo ? SECOND_FIXED * operandForms[f] : 0);
            int a = operands[e];
            if (op == STORE) {
                made.add(STORE, row, a, b, form);
            } else {
                int t = made.takeRegister();
                made.add(op, t, a, b, form);
                push(t, 0);
            }
        }

        private void show() {
            int e = pop();
            made.add(SHOW, 0, operands[e], 0, operandForms[e]);
        }

        private void test(int op, int target) {
            int e = pop();
            leap(op, target, operands[e], operandForms[e]);
        }

        /** Jumps to a step that is still to come wait as a chain through their Ds. */
        private void leap(int op, int target, int a, int form) {
            if (target <= at) {
                made.add(op, begun[target], a, 0, form);
            } else {
                int before = made.count;
                int i = made.add(op, waits[target], a, 0, form);
                if (made.count > before) {
                    waits[target] = i;
                }
            }
        }

        private void endTruth(int t) {
            int e = pop();
            made.add(OTHER, t, operands[e], 0, operandForms[e] + SECOND_FIXED);
            push(t, 0);
        }

        private void call(int def) {
            int n = script.defNames[def];
            if (operandCount < n || calls >= DEF_LIMIT) {
                return;
            }
            int first = operandCount - n;
            for (int k = 0; k < n; k++) {
                int register = made.takeRegister();
                registers[script.defFirsts[def] + k] = register;
                int form = operandForms[first + k];
                made.add(form == FIRST_FIXED ? SET : COPY, register, operands[first + k], 0, form);
            }
            operandCount = first;
            int t = made.takeRegister();
            made.add(SET, t, 0, 0, FIRST_FIXED);
            backs[calls] = at;
            results[calls] = t;
            calls++;
            at = script.defBegins[def] - 1;
        }

        private void giveBack(int def) {
            if (calls > 0) {
                lay(results[calls - 1]);
                leap(JUMP, script.defEnds[def], 0, 0);
            }
        }

        private void endCall() {
            if (calls > 0) {
                calls--;
                push(results[calls], 0);
                at = backs[calls];
            }
        }
    }

    /** What CONSTANTS knows before each instruction, kept at leaders alone. */
    private static final class Knowledge {
        private final long[] table = new long[CODE_LIMIT * REGISTER_LIMIT];
        final boolean[] isCome = new boolean[CODE_LIMIT];
        private final boolean[] isWaiting = new boolean[CODE_LIMIT];
        private final int[] waiting = new int[CODE_LIMIT];
        private int waitingCount;
        private final long[] now = new long[REGISTER_LIMIT];

        void learn(Code of) {
            of.findLeaders();
            for (int i = 0; i < of.count; i++) {
                isCome[i] = false;
                isWaiting[i] = false;
            }
            waitingCount = 0;
            Arrays.fill(now, 0);
            flow(of, 0);
            // A leader comes again only when one of its registers is known no more.
            for (int left = TURN_LIMIT; left > 0 && waitingCount > 0; left--) {
                waitingCount--;
                int leader = waiting[waitingCount];
                isWaiting[leader] = false;
                follow(of, leader);
            }
        }

        private void follow(Code of, int leader) {
            begin(leader);
            int last = of.lastOf(leader);
            for (int i = leader; i <= last; i++) {
                isCome[i] = true;
                pass(of, i);
            }
            int op = of.ops[last];
            boolean leaps = op == JUMP;
            boolean goes = of.goesOn(last);
            if (op == ZERO || op == MANY) {
                long a = first(of, last);
                leaps = a == UNKNOWN || (a == 0) == (op == ZERO);
                goes = goes && (a == UNKNOWN || (a == 0) != (op == ZERO));
            }
            if (leaps) {
                flow(of, of.ds[last]);
            }
            if (goes) {
                flow(of, last + 1);
            }
        }

        /** What is known now comes to a leader: what differs there is known no more. */
        private void flow(Code of, int to) {
            if (to < 0 || to >= of.count) {
                return;
            }
            int row = to * REGISTER_LIMIT;
            boolean isNew = !isCome[to];
            boolean changed = isNew;
            isCome[to] = true;
            if (isNew) {
                System.arraycopy(now, 0, table, row, of.registers);
            } else {
                for (int r = 0; r < of.registers; r++) {
                    if (table[row + r] != now[r] && table[row + r] != UNKNOWN) {
                        table[row + r] = UNKNOWN;
                        changed = true;
                    }
                }
            }
            if (changed && !isWaiting[to]) {
                isWaiting[to] = true;
                waiting[waitingCount] = to;
                waitingCount++;
            }
        }

        void begin(int leader) {
            System.arraycopy(table, leader * REGISTER_LIMIT, now, 0, REGISTER_LIMIT);
        }

        long first(Code of, int i) {
            return of.usesA(i) ? now[of.as[i]] : of.as[i];
        }

        long second(Code of, int i) {
            return of.usesB(i) ? now[of.bs[i]] : of.bs[i];
        }

        /** From before the instruction to behind it. */
        void pass(Code of, int i) {
            if (!of.defines(i)) {
                return;
            }
            int op = of.ops[i];
            long result = UNKNOWN;
            if (op <= TURN_BITS) {
                long a = first(of, i);
                long b = second(of, i);
                if (op == SET || op == COPY) {
                    result = a;
                } else if (a != UNKNOWN && b != UNKNOWN && !(isDivision(op) && b == 0)) {
                    result = work(op, (int) a, (int) b);
                }
            }
            now[of.ds[i]] = result;
        }

        long before(Code of, int i, int register) {
            if (!isCome[i]) {
                return UNKNOWN;
            }
            int leader = i;
            while (leader > 0 && !of.isLeader[leader]) {
                leader--;
            }
            begin(leader);
            for (int k = leader; k < i; k++) {
                pass(of, k);
            }
            return now[register];
        }
    }

    /** Which register holds which expression before each instruction, as bits of facts. */
    private static final class Holdings {
        private final int[] factOf = new int[CODE_LIMIT];
        private final int[] holders = new int[CODE_LIMIT];
        private final int[] ops = new int[CODE_LIMIT];
        private final int[] as = new int[CODE_LIMIT];
        private final int[] bs = new int[CODE_LIMIT];
        private final int[] forms = new int[CODE_LIMIT];
        private int count;
        private final long[] ends = new long[REGISTER_LIMIT * FACT_WORDS];
        private final long[] table = new long[CODE_LIMIT * FACT_WORDS];
        private final long[] now = new long[FACT_WORDS];

        void find(Code of) {
            of.findReached();
            of.findLeaders();
            count = 0;
            Arrays.fill(ends, 0, of.registers * FACT_WORDS, 0);
            for (int i = 0; i < of.count; i++) {
                boolean isFact = of.isReached[i] && (of.ops[i] == COPY || of.isWorkedOut(i));
                factOf[i] = isFact ? factFor(of, i) : NONE;
            }
            Arrays.fill(table, 0, of.count * FACT_WORDS, -1L);
            Arrays.fill(table, 0, FACT_WORDS, 0);
            boolean changed = true;
            for (int left = TURN_LIMIT; left > 0 && changed; left--) {
                changed = false;
                for (int i = 0; i < of.count; i++) {
                    if (of.isLeader[i] && of.isReached[i] && follow(of, i)) {
                        changed = true;
                    }
                }
            }
        }

        private int factFor(Code of, int i) {
            int d = of.ds[i];
            if (of.usesA(i) && of.as[i] == d || of.usesB(i) && of.bs[i] == d) {
                return NONE;
            }
            for (int f = 0; f < count; f++) {
                if (holders[f] == d && isOf(f, of, i)) {
                    return f;
                }
            }
            int fact = count;
            count++;
            holders[fact] = d;
            ops[fact] = of.ops[i];
            as[fact] = of.as[i];
            bs[fact] = of.bs[i];
            forms[fact] = of.forms[i];
            endBy(d, fact);
            if (of.usesA(i)) {
                endBy(of.as[i], fact);
            }
            if (of.usesB(i)) {
                endBy(of.bs[i], fact);
            }
            return fact;
        }

        private void endBy(int register, int fact) {
            ends[register * FACT_WORDS + (fact >> 6)] |= 1L << (fact & 63);
        }

        private boolean isOf(int fact, Code of, int i) {
            return ops[fact] == of.ops[i] && as[fact] == of.as[i] && bs[fact] == of.bs[i] && forms[fact] == of.forms[i];
        }

        private boolean follow(Code of, int leader) {
            begin(leader);
            int last = of.lastOf(leader);
            for (int i = leader; i <= last; i++) {
                pass(of, i);
            }
            boolean changed = of.leapsInside(last) && flow(of.ds[last]);
            return of.goesOn(last) && flow(last + 1) || changed;
        }

        private boolean flow(int to) {
            boolean changed = false;
            for (int w = 0; w < FACT_WORDS; w++) {
                long both = table[to * FACT_WORDS + w] & now[w];
                if (both != table[to * FACT_WORDS + w]) {
                    table[to * FACT_WORDS + w] = both;
                    changed = true;
                }
            }
            return changed;
        }

        void begin(int leader) {
            System.arraycopy(table, leader * FACT_WORDS, now, 0, FACT_WORDS);
        }

        /** From before the instruction, as it was when the facts were found, to behind it. */
        void pass(Code of, int i) {
            if (!of.defines(i)) {
                return;
            }
            int row = of.ds[i] * FACT_WORDS;
            for (int w = 0; w < FACT_WORDS; w++) {
                now[w] &= ~ends[row + w];
            }
            int fact = factOf[i];
            if (fact != NONE) {
                now[fact >> 6] |= 1L << (fact & 63);
            }
        }

        /** The register that the register is a copy of now, or itself. */
        int original(int register) {
            for (int w = 0; w < FACT_WORDS; w++) {
                long bits = now[w] & ends[register * FACT_WORDS + w];
                for (int left = 64; left > 0 && bits != 0; left--) {
                    int fact = w * 64 + Long.numberOfTrailingZeros(bits);
                    bits &= bits - 1;
                    if (fact < count && ops[fact] == COPY && holders[fact] == register) {
                        return as[fact];
                    }
                }
            }
            return register;
        }

        /** The least register that holds the instruction's expression now, or NONE. */
        int holder(Code of, int i) {
            int least = NONE;
            for (int w = 0; w < FACT_WORDS; w++) {
                long bits = now[w];
                for (int left = 64; left > 0 && bits != 0; left--) {
                    int fact = w * 64 + Long.numberOfTrailingZeros(bits);
                    bits &= bits - 1;
                    if (fact < count && isOf(fact, of, i) && (least == NONE || holders[fact] < least)) {
                        least = holders[fact];
                    }
                }
            }
            return least;
        }
    }

    /** Which registers are live behind each instruction, and the colours that follow. */
    private static final class Lives {
        private final long[] before = new long[(CODE_LIMIT + 1) * LIVE_WORDS];
        private final long[] behind = new long[CODE_LIMIT * LIVE_WORDS];
        private final long[] apart = new long[REGISTER_LIMIT * LIVE_WORDS];
        private final boolean[] isThere = new boolean[REGISTER_LIMIT];
        private final boolean[] isTaken = new boolean[REGISTER_LIMIT + 1];
        final int[] colours = new int[REGISTER_LIMIT];
        int colourCount;

        void find(Code of) {
            Arrays.fill(before, 0);
            Arrays.fill(behind, 0);
            boolean changed = true;
            for (int left = TURN_LIMIT; left > 0 && changed; left--) {
                changed = false;
                for (int i = of.count - 1; i >= 0; i--) {
                    if (look(of, i)) {
                        changed = true;
                    }
                }
            }
        }

        private boolean look(Code of, int i) {
            int row = i * LIVE_WORDS;
            if (of.goesOn(i)) {
                join(row, row + LIVE_WORDS);
            }
            if (of.leapsInside(i)) {
                join(row, of.ds[i] * LIVE_WORDS);
            }
            boolean changed = false;
            for (int w = 0; w < LIVE_WORDS; w++) {
                long bits = behind[row + w];
                if (of.defines(i) && of.ds[i] >> 6 == w) {
                    bits &= ~(1L << (of.ds[i] & 63));
                }
                if (of.usesA(i) && of.as[i] >> 6 == w) {
                    bits |= 1L << (of.as[i] & 63);
                }
                if (of.usesB(i) && of.bs[i] >> 6 == w) {
                    bits |= 1L << (of.bs[i] & 63);
                }
                if (bits != before[row + w]) {
                    before[row + w] = bits;
                    changed = true;
                }
            }
            return changed;
        }

        private void join(int row, int next) {
            for (int w = 0; w < LIVE_WORDS; w++) {
                behind[row + w] |= before[next + w];
            }
        }

        boolean isBehind(int i, int register) {
            return (behind[i * LIVE_WORDS + (register >> 6)] >>> (register & 63) & 1) != 0;
        }

        void giveColours(Code of) {
            Arrays.fill(apart, 0);
            for (int r = 0; r < REGISTER_LIMIT; r++) {
                isThere[r] = false;
            }
            for (int i = 0; i < of.count; i++) {
                if (of.usesA(i)) {
                    isThere[of.as[i]] = true;
                }
                if (of.usesB(i)) {
                    isThere[of.bs[i]] = true;
                }
                if (of.defines(i)) {
                    isThere[of.ds[i]] = true;
                    setApart(of, i);
                }
            }
            colourCount = 0;
            for (int r = 0; r < REGISTER_LIMIT; r++) {
                colours[r] = isThere[r] ? leastColour(r) : NONE;
                colourCount = Math.max(colourCount, colours[r] + 1);
            }
        }

        private void setApart(Code of, int i) {
            int d = of.ds[i];
            for (int r = 0; r < of.registers; r++) {
                boolean isPair = r == d || of.ops[i] == COPY && of.as[i] == r;
                if (!isPair && isBehind(i, r)) {
                    apart[d * LIVE_WORDS + (r >> 6)] |= 1L << (r & 63);
                    apart[r * LIVE_WORDS + (d >> 6)] |= 1L << (d & 63);
                }
            }
        }

        private int leastColour(int register) {
            for (int c = 0; c <= register; c++) {
                isTaken[c] = false;
            }
            for (int r = 0; r < register; r++) {
                boolean isApart = (apart[register * LIVE_WORDS + (r >> 6)] >>> (r & 63) & 1) != 0;
                if (isApart && colours[r] >= 0) {
                    isTaken[colours[r]] = true;
                }
            }
            int least = 0;
            while (least < register && isTaken[least]) {
                least++;
            }
            return least;
        }
    }

    /** Improves code, round by round. */
    private static final class Improver {
        private final Knowledge knowledge;
        private final Holdings holdings = new Holdings();
        final Lives lives = new Lives();
        int rounds;

        Improver(Knowledge shared) {
            knowledge = shared;
        }

        void press(Code from, Code to) {
            to.copyFrom(from);
            rounds = 0;
            boolean changed = true;
            for (int left = TURN_LIMIT; left > 0 && changed; left--) {
                changed = putConstants(to);
                changed = putCopies(to) || changed;
                changed = leaveDead(to) || changed;
                changed = mendJumps(to) || changed;
                rounds++;
            }
            lives.find(to);
            lives.giveColours(to);
        }

        private boolean putConstants(Code of) {
            knowledge.learn(of);
            boolean changed = false;
            for (int i = 0; i < of.count; i++) {
                if (of.isLeader[i]) {
                    knowledge.begin(i);
                }
                if (knowledge.isCome[i]) {
                    changed = putConstant(of, i) || changed;
                    knowledge.pass(of, i);
                }
            }
            return changed;
        }

        private boolean putConstant(Code of, int i) {
            boolean changed = false;
            long a = knowledge.first(of, i);
            if (of.usesA(i) && a != UNKNOWN) {
                of.as[i] = (int) a;
                of.forms[i] |= FIRST_FIXED;
                changed = true;
            }
            long b = knowledge.second(of, i);
            if (of.usesB(i) && b != UNKNOWN) {
                of.bs[i] = (int) b;
                of.forms[i] |= SECOND_FIXED;
                changed = true;
            }
            boolean isFixed = !of.usesA(i) && !of.usesB(i);
            if (changed && of.ops[i] == COPY) {
                of.ops[i] = SET;
            }
            if (of.isWorkedOut(i) && isFixed && !(isDivision(of.ops[i]) && of.bs[i] == 0)) {
                of.put(i, SET, of.ds[i], work(of.ops[i], of.as[i], of.bs[i]), FIRST_FIXED);
                changed = true;
            }
            return changed;
        }

        private boolean putCopies(Code of) {
            holdings.find(of);
            boolean changed = false;
            for (int i = 0; i < of.count; i++) {
                if (of.isLeader[i]) {
                    holdings.begin(i);
                }
                if (of.isReached[i]) {
                    changed = putCopy(of, i) || changed;
                    holdings.pass(of, i);
                }
            }
            return of.sweep() || changed;
        }

        private boolean putCopy(Code of, int i) {
            boolean changed = false;
            if (of.usesA(i)) {
                int a = holdings.original(of.as[i]);
                changed = a != of.as[i];
                of.as[i] = a;
            }
            if (of.usesB(i)) {
                int b = holdings.original(of.bs[i]);
                changed = changed || b != of.bs[i];
                of.bs[i] = b;
            }
            if (of.isWorkedOut(i)) {
                int holder = holdings.holder(of, i);
                if (holder != NONE) {
                    of.put(i, COPY, of.ds[i], holder, 0);
                    changed = true;
                }
            }
            if (of.ops[i] == COPY && of.as[i] == of.ds[i]) {
                of.leaveOut(i);
            }
            return changed;
        }

        private boolean leaveDead(Code of) {
            lives.find(of);
            for (int i = 0; i < of.count; i++) {
                if (of.ops[i] <= LOAD && !lives.isBehind(i, of.ds[i]) && isHarmless(of, i)) {
                    of.leaveOut(i);
                }
            }
            return of.sweep();
        }

        /** Whether the instruction can't end a run. */
        private static boolean isHarmless(Code of, int i) {
            int op = of.ops[i];
            if (isDivision(op)) {
                return !of.usesB(i) && of.bs[i] != 0;
            }
            if (op == LOAD) {
                int row = of.bs[i];
                int cells = row >= 0 && row < ROW_LIMIT ? of.cells[row] : 0;
                return !of.usesA(i) && of.as[i] >= 0 && of.as[i] < cells;
            }
            return true;
        }

        private boolean mendJumps(Code of) {
            boolean changed = settleTests(of);
            changed = leaveUnreached(of) || changed;
            changed = goThrough(of) || changed;
            changed = leaveUnreached(of) || changed;
            for (int i = 0; i < of.count; i++) {
                if (of.leaps(i) && of.ds[i] == i + 1) {
                    of.leaveOut(i);
                }
            }
            return of.sweep() || changed;
        }

        private static boolean settleTests(Code of) {
            boolean changed = false;
            for (int i = 0; i < of.count; i++) {
                int op = of.ops[i];
                if ((op == ZERO || op == MANY) && !of.usesA(i)) {
                    if ((of.as[i] == 0) == (op == ZERO)) {
                        of.put(i, JUMP, of.ds[i], 0, 0);
                    } else {
                        of.leaveOut(i);
                    }
                    changed = true;
                }
            }
            of.sweep();
            return changed;
        }

        private static boolean leaveUnreached(Code of) {
            of.findReached();
            for (int i = 0; i < of.count; i++) {
                if (!of.isReached[i]) {
                    of.leaveOut(i);
                }
            }
            return of.sweep();
        }

        private static boolean goThrough(Code of) {
            boolean changed = false;
            for (int i = 0; i < of.count; i++) {
                if (of.leapsInside(i)) {
                    int to = of.ds[i];
                    // More JUMPs than there are: they are a ring.
                    for (int left = of.count; left > 0 && of.ops[to] == JUMP && of.leapsInside(to); left--) {
                        to = of.ds[to];
                    }
                    if (of.ops[to] != JUMP && to != of.ds[i]) {
                        of.ds[i] = to;
                        changed = true;
                    }
                }
            }
            return changed;
        }
    }

    /** Runs the text and the code; keeps INPUT and what the latest run did. */
    private static final class Runner {
        final int[] inputs = new int[INPUT_LIMIT];
        int inputSize;
        final int[] prints = new int[PRINT_LIMIT];
        int printSize;
        int taken;
        int used;
        private int fuel;
        private int end;
        private int at;
        private final int[] cells = new int[ROW_LIMIT * CELL_LIMIT];
        private final int[] slots = new int[SLOT_LIMIT];
        private final int[] stack = new int[TAPE_LIMIT];
        private int top;
        private final int[] backs = new int[DEF_LIMIT];
        private int calls;
        private final int[] registers = new int[REGISTER_LIMIT];
        final int[] sameNumbers = new int[REGISTER_LIMIT];

        Runner() {
            for (int r = 0; r < REGISTER_LIMIT; r++) {
                sameNumbers[r] = r;
            }
        }

        private void begin(int start, int fuelThere) {
            printSize = 0;
            taken = 0;
            used = 0;
            fuel = fuelThere;
            end = GOING;
            at = start;
            Arrays.fill(cells, 0);
        }

        private void burn() {
            if (used >= fuel) {
                end = END_FUEL;
            } else {
                used++;
            }
        }

        private int takeInput() {
            if (taken >= inputSize) {
                end = END_INPUT;
                return 0;
            }
            taken++;
            return inputs[taken - 1];
        }

        private void show(int number) {
            if (printSize >= PRINT_LIMIT) {
                end = END_PRINTS;
            } else {
                prints[printSize] = number;
                printSize++;
            }
        }

        /** Where the cell is; NONE, and the run ends, when the row has it not. */
        private int cellPlace(int[] sizes, int row, int cell) {
            if (row < 0 || row >= ROW_LIMIT || cell < 0 || cell >= sizes[row]) {
                end = END_CELL;
                return NONE;
            }
            return row * CELL_LIMIT + cell;
        }

        int goText(Script of, int fuelThere) {
            begin(of.start, fuelThere);
            Arrays.fill(slots, 0);
            top = 0;
            calls = 0;
            for (long left = STEPS_PER_FUEL * (fuelThere + 1L); left > 0 && end == GOING && at < of.count; left--) {
                int op = of.ops[at];
                int arg = of.args[at];
                at++;
                if (op >= ADD && op <= TURN_BITS) {
                    takeWork(op);
                } else if (op <= SHOW) {
                    takePlain(of, op, arg);
                } else {
                    takeWay(of, op, arg);
                }
            }
            return end;
        }

        private void push(int number) {
            if (top < TAPE_LIMIT) {
                stack[top] = number;
                top++;
            }
        }

        private int pop() {
            if (top > 0) {
                top--;
            }
            return stack[top];
        }

        private void takeWork(int op) {
            int y = op <= AT_LEAST ? pop() : 0;
            int x = pop();
            if (isDivision(op) && y == 0) {
                end = END_DIVIDED;
            } else {
                push(work(op, x, y));
            }
        }

        private void takePlain(Script of, int op, int arg) {
            switch (op) {
                case PUSH_NUMBER:
                    push(arg);
                    break;
                case PUSH_NAME:
                    push(slots[arg]);
                    break;
                case LOAD:
                    int from = cellPlace(of.cells, arg, pop());
                    if (from != NONE) {
                        push(cells[from]);
                    }
                    break;
                case STORE:
                    int number = pop();
                    int to = cellPlace(of.cells, arg, pop());
                    if (to != NONE) {
                        cells[to] = number;
                    }
                    break;
                case TAKE:
                    slots[arg] = takeInput();
                    break;
                default:
                    show(pop());
            }
        }

        private void takeWay(Script of, int op, int arg) {
            switch (op) {
                case JUMP: at = arg; break;
                case ZERO: at = pop() == 0 ? arg : at; break;
                case MANY: at = pop() != 0 ? arg : at; break;
                case HALT: end = END_DONE; break;
                case ASSIGN: slots[arg] = pop(); break;
                case TELL_INT: slots[arg] = 0; break;
                case TICK: burn(); break;
                case CALL: call(of, arg); break;
                case RETURN: goBack(); break;
                case DEF_END: push(0); goBack(); break;
                case DROP: pop(); break;
                case AND_STEP: tellEarly(pop() == 0, 0, arg); break;
                case OR_STEP: tellEarly(pop() != 0, 1, arg); break;
                case TRUTH: push(pop() != 0 ? 1 : 0); break;
                default: break;
            }
        }

        private void tellEarly(boolean isTold, int truth, int target) {
            if (isTold) {
                push(truth);
                at = target;
            }
        }

        private void call(Script of, int def) {
            for (int k = of.defNames[def] - 1; k >= 0; k--) {
                slots[of.defFirsts[def] + k] = pop();
            }
            if (calls < DEF_LIMIT) {
                backs[calls] = at;
                calls++;
                at = of.defBegins[def];
            }
        }

        private void goBack() {
            if (calls > 0) {
                calls--;
                at = backs[calls];
            }
        }

        int goCode(Code of, int[] numbers, int fuelThere) {
            begin(0, fuelThere);
            Arrays.fill(registers, 0);
            for (int left = fuelThere + 1; left > 0 && end == GOING; left--) {
                burn();
                if (end == GOING && at < of.count) {
                    takeInstruction(of, at, numbers);
                }
            }
            return end;
        }

        private void takeInstruction(Code of, int i, int[] numbers) {
            int op = of.ops[i];
            int a = of.usesA(i) ? registers[numbers[of.as[i]]] : of.as[i];
            int b = of.usesB(i) ? registers[numbers[of.bs[i]]] : of.bs[i];
            at = i + 1;
            if (of.defines(i)) {
                int result = resultOf(of, op, a, b);
                if (end == GOING) {
                    registers[numbers[of.ds[i]]] = result;
                }
            } else if (op == STORE) {
                int to = cellPlace(of.cells, of.ds[i], a);
                if (to != NONE) {
                    cells[to] = b;
                }
            } else if (op == SHOW) {
                show(a);
            } else if (op == HALT) {
                end = END_DONE;
            } else if (op == JUMP || (a == 0) == (op == ZERO)) {
                at = of.ds[i];
            }
        }

        private int resultOf(Code of, int op, int a, int b) {
            if (op == SET || op == COPY) {
                return a;
            }
            if (op == TAKE) {
                return takeInput();
            }
            if (op == LOAD) {
                int from = cellPlace(of.cells, b, a);
                return from == NONE ? 0 : cells[from];
            }
            if (isDivision(op) && b == 0) {
                end = END_DIVIDED;
                return 0;
            }
            return work(op, a, b);
        }
    }
}
