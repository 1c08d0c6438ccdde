import java.util.Arrays;

/**
 * A machine of lanes: a program of up to a hundred instructions is read from a text, judged by the kinds that may
 * flow to each instruction, run step by step, and taken back. The project's document tells what each call does; the
 * words in capitals here are its terms.
 */
public final class LaneMachine {
    private static final int INSTRUCTIONS = 100;
    private static final int LABELS = 40;
    private static final int LABEL_BYTES = 12;
    private static final int TAPE_BYTES = 4000;
    private static final int FED_BYTES = 20;
    private static final int REGISTERS = 8;
    private static final int MASKS = 4;
    private static final int LANES = 32;
    private static final int ELEMENTS = 64;
    private static final int ALL_ELEMENTS = 400;
    private static final int KINDS = 7;
    private static final int KEPT = 4;
    private static final int OPEN_CALLS = 16;
    private static final int LISTED_STEPS = 64;
    private static final int STEPS_OF_A_RUN = 2000;
    private static final int NONE = -1;

    // The FAULTS of an instruction.
    private static final int KIND = 1;
    private static final int LENGTH = 2;
    private static final int NULL = 3;
    private static final int BOUNDS = 4;
    private static final int ZERO = 5;
    private static final int RANGE = 6;
    private static final int DEPTH = 7;

    // The numbers at which the groups of instructions begin; those of lanes come first.
    private static final int FIRST_OF_MASKS = 46;
    private static final int FIRST_OF_SCALARS = 53;
    private static final int FIRST_OF_PLACES = 59;

    private static final Op[] OPS = Op.values();

    private final Reader reader = new Reader();
    private final Processor processor = new Processor();
    private final Program program = processor.program;
    private final State now = processor.state;
    /** The program as assemble() made it. */
    private final Program made = new Program();
    private final Flow flows = new Flow();
    private final State[] kept = new State[KEPT];
    private final boolean[] isKept = new boolean[KEPT];
    private final boolean[] stops = new boolean[INSTRUCTIONS];
    /** Of each array, bit i for element i. */
    private final long[] watched = new long[REGISTERS];
    private boolean slimmed;

    public LaneMachine() {
        for (int k = 0; k < KEPT; k++) {
            kept[k] = new State();
        }
    }

    public boolean feed(int a, int b, int c, int d, int e) {
        if (reader.held + FED_BYTES > TAPE_BYTES) {
            return false;
        }
        reader.hold(a);
        reader.hold(b);
        reader.hold(c);
        reader.hold(d);
        reader.hold(e);
        return true;
    }

    public int assemble(int n) {
        if (n < 0 || n > reader.held) {
            return -5000;
        }
        int wrong = reader.translate(n);
        reader.held = 0;
        if (wrong >= 0) {
            return -1 - wrong;
        }
        made.copyFrom(reader.program);
        program.copyFrom(reader.program);
        slimmed = false;
        startAnew();
        return program.size;
    }

    public long code(int i, int what) throws IndexOutOfBoundsException {
        if (!program.has(i) || what < 0 || what >= Program.CELLS) {
            throw new IndexOutOfBoundsException("no such instruction, or what");
        }
        return program.cell(i, what);
    }

    public int check() {
        flows.follow(program);
        for (int i = 0; i < program.size; i++) {
            if (flows.isReached(i) && !flows.isGood(program, i)) {
                return i + 1;
            }
        }
        return 0;
    }

    public int flow(int i, int what) {
        if (!program.has(i) || what < 0 || what > 1 + REGISTERS) {
            return -1;
        }
        flows.follow(program);
        if (!flows.isReached(i)) {
            return 0;
        }
        if (what == 0) {
            return 1;
        }
        return what == 1 ? (flows.isGood(program, i) ? 1 : 0) : flows.ways(i, what - 2);
    }

    public int slim() {
        int gone = program.slimAll();
        if (gone > 0) {
            slimmed = true;
        }
        startAnew();
        return gone;
    }

    public boolean restore() {
        if (!slimmed) {
            return false;
        }
        program.copyFrom(made);
        slimmed = false;
        startAnew();
        return true;
    }

    public void begin() {
        processor.startOver();
    }

    public int run(int steps) throws IllegalArgumentException {
        if (steps < 0 || steps > STEPS_OF_A_RUN) {
            throw new IllegalArgumentException("steps must be 0 .. 2000");
        }
        for (int done = 0; done < steps; done++) {
            if (processor.ended) {
                return 0;
            }
            if (done > 0 && isStop(processor.pc)) {
                return -2;
            }
            int fault = processor.step();
            if (fault != 0) {
                return fault;
            }
            if (processor.changedOneOf(watched)) {
                return processor.ended ? 0 : -3;
            }
        }
        return processor.ended ? 0 : -1;
    }

    public int back() {
        return processor.takeBack();
    }

    public int fault(int what) {
        boolean is = processor.fault != 0;
        switch (what) {
            case 0:
                return processor.fault;
            case 1:
                return is ? processor.faultPlace : -1;
            case 2:
                return is ? processor.faultLane : -1;
            default:
                return 0;
        }
    }

    public int memory(int kind, int n) {
        if (kind < 0 || kind >= KINDS || n < 0 || n > ELEMENTS) {
            return -1;
        }
        int m = now.firstFreeArray();
        if (m < 0 || now.elements() + n > ALL_ELEMENTS) {
            return -2;
        }
        now.arrays[m].make(kind, n);
        processor.trail.empty();
        return m;
    }

    public boolean free(int m) {
        if (!isArray(m)) {
            return false;
        }
        now.arrays[m].unmake();
        processor.trail.empty();
        return true;
    }

    public int resize(int m, int n) {
        if (!isArray(m) || n < 0 || n > ELEMENTS) {
            return -1;
        }
        int had = now.arrays[m].length;
        if (now.elements() - had + n > ALL_ELEMENTS) {
            return -2;
        }
        now.arrays[m].reach(n);
        processor.trail.empty();
        return had;
    }

    public boolean poke(int m, int i, long v) {
        if (!isArray(m) || !now.arrays[m].has(i)) {
            return false;
        }
        Row row = now.arrays[m];
        row.items[i] = Numbers.put(row.kind, v);
        processor.trail.empty();
        return true;
    }

    public long peek(int m, int i) throws IndexOutOfBoundsException {
        if (!isArray(m) || !now.arrays[m].has(i)) {
            throw new IndexOutOfBoundsException("no such element");
        }
        return now.arrays[m].items[i];
    }

    public int array(int m, int what) {
        return m < 0 || m >= REGISTERS ? -2 : shape(now.arrays[m], what);
    }

    public boolean scalar(int s, long v) {
        if (s < 0 || s >= REGISTERS) {
            return false;
        }
        now.scalars[s] = v;
        processor.trail.empty();
        return true;
    }

    public long scalarOf(int s) throws IndexOutOfBoundsException {
        if (s < 0 || s >= REGISTERS) {
            throw new IndexOutOfBoundsException("no such scalar");
        }
        return now.scalars[s];
    }

    public int register(int v, int what) {
        return v < 0 || v >= REGISTERS ? -2 : shape(now.registers[v], what);
    }

    public long lane(int v, int i) throws IndexOutOfBoundsException {
        if (v < 0 || v >= REGISTERS || !now.registers[v].has(i)) {
            throw new IndexOutOfBoundsException("no such lane");
        }
        return now.registers[v].items[i];
    }

    public int mask(int m) {
        return m < 0 || m >= MASKS ? 0 : now.masks[m];
    }

    public boolean stop(int i, boolean on) {
        if (!program.has(i) || isStop(i) == on) {
            return false;
        }
        stops[i] = on;
        return true;
    }

    public boolean watch(int m, int i, boolean on) {
        if (m < 0 || m >= REGISTERS || i < 0 || i >= ELEMENTS) {
            return false;
        }
        long bit = 1L << i;
        if ((watched[m] & bit) != 0 == on) {
            return false;
        }
        watched[m] ^= bit;
        return true;
    }

    public int trace(int k, int what) {
        Trail trail = processor.trail;
        if (k < 0 || k >= trail.held || what < 0 || what > 1) {
            return -1;
        }
        int slot = trail.slot(k);
        return what == 0 ? trail.places[slot] : trail.lanes[slot];
    }

    public boolean keep(int k) {
        if (k < 0 || k >= KEPT) {
            return false;
        }
        kept[k].copyFrom(now);
        isKept[k] = true;
        return true;
    }

    public int differs(int a, int b) {
        if (!isThere(a) || !isThere(b)) {
            return -1;
        }
        return stateOf(a).firstDifference(stateOf(b));
    }

    public int count(int what) {
        switch (what) {
            case 0:
                return program.size;
            case 1:
                return processor.steps;
            case 2:
                return processor.lanesDone;
            case 3:
                return now.elements();
            case 4:
                return processor.trail.held;
            case 5:
                return processor.pc;
            case 6:
                return processor.open;
            case 7:
                return processor.ended ? 1 : 0;
            case 8:
                return stopsSet();
            case 9:
                return watchesSet();
            case 10:
                return program.labels;
            case 11:
                return reader.held;
            default:
                return -1;
        }
    }

    /** What every change of the program brings with it. */
    private void startAnew() {
        for (int i = 0; i < INSTRUCTIONS; i++) {
            stops[i] = false;
        }
        flows.forget();
        processor.startOver();
    }

    private boolean isStop(int i) {
        return i >= 0 && i < INSTRUCTIONS && stops[i];
    }

    private int stopsSet() {
        int set = 0;
        for (int i = 0; i < INSTRUCTIONS; i++) {
            set += stops[i] ? 1 : 0;
        }
        return set;
    }

    private int watchesSet() {
        int set = 0;
        for (int m = 0; m < REGISTERS; m++) {
            set += Long.bitCount(watched[m]);
        }
        return set;
    }

    private boolean isArray(int m) {
        return m >= 0 && m < REGISTERS && now.arrays[m].kind != NONE;
    }

    private static int shape(Row row, int what) {
        switch (what) {
            case 0:
                return row.kind;
            case 1:
                return row.length;
            default:
                return -2;
        }
    }

    private boolean isThere(int k) {
        return k == -1 || k >= 0 && k < KEPT && isKept[k];
    }

    private State stateOf(int k) {
        return k >= 0 && k < KEPT ? kept[k] : now;
    }

    /**
     * The instructions in the order of their numbers: WORD, OPERANDS, and whether ? may follow. The letters of the
     * operands are the document's M, S, A, K, L; for an N its bounds: T (1 .. 32), P (0 .. 31), U (0 .. 4294967295)
     * and N (any); for a V what it must be: v (even NONE will do), a (of any kind), h (of any whole kind), i (INT),
     * k, w, r (the kind that all of these have in common; for w a whole one, for r a REAL one).
     */
    private enum Op {
        SET("set", "vKT", false),
        ADD("add", "kkk", true),
        SUB("sub", "kkk", true),
        MUL("mul", "kkk", true),
        DIV("div", "kkk", true),
        REM("rem", "kkk", true),
        MIN("min", "kkk", true),
        MAX("max", "kkk", true),
        AND("and", "www", true),
        OR("or", "www", true),
        XOR("xor", "www", true),
        SHL("shl", "wwS", true),
        SHR("shr", "wwS", true),
        USH("ush", "wwS", true),
        NEG("neg", "kk", true),
        ABS("abs", "kk", true),
        SQRT("sqrt", "rr", true),
        EQ("eq", "Mkk", true),
        NE("ne", "Mkk", true),
        LT("lt", "Mkk", true),
        LE("le", "Mkk", true),
        GT("gt", "Mkk", true),
        GE("ge", "Mkk", true),
        SEL("sel", "kMkk", false),
        CAST("cast", "aa", true),
        SAT("sat", "ha", true),
        GATHER("gather", "aAi", true),
        SCATTER("scatter", "aAi", true),
        LOAD("load", "aAS", true),
        STORE("store", "aAS", true),
        FILL("fill", "aS", true),
        IOTA("iota", "aS", true),
        PACK("pack", "kMk", false),
        SPREAD("spread", "kMk", false),
        SHUF("shuf", "kki", true),
        ROT("rot", "kkS", true),
        REV("rev", "kk", true),
        ZIP("zip", "kkk", true),
        SORT("sort", "kk", false),
        SCAN("scan", "kk", true),
        HALF("half", "kk", false),
        SUM("sum", "Sw", true),
        LEAST("least", "Sw", true),
        MOST("most", "Sw", true),
        GET("get", "SaP", false),
        PUT("put", "aPS", false),
        MAND("mand", "MMM", false),
        MOR("mor", "MMM", false),
        MXOR("mxor", "MMM", false),
        MNOT("mnot", "MM", false),
        MSET("mset", "MU", false),
        MCOUNT("mcount", "SM", false),
        MFIRST("mfirst", "SM", false),
        MOV("mov", "SN", false),
        SADD("sadd", "SSS", false),
        SSUB("ssub", "SSS", false),
        SMUL("smul", "SSS", false),
        SDIV("sdiv", "SSS", false),
        SREM("srem", "SSS", false),
        JMP("jmp", "L", false),
        JEQ("jeq", "SSL", false),
        JNE("jne", "SSL", false),
        JLT("jlt", "SSL", false),
        JLE("jle", "SSL", false),
        LOOP("loop", "SL", false),
        CALL("call", "L", false),
        RET("ret", "", false),
        END("end", "", false);

        final String word;
        final String operands;
        final boolean masked;

        Op(String word, String operands, boolean masked) {
            this.word = word;
            this.operands = operands;
            this.masked = masked;
        }

        /** The letter of operand k, the first is 0; a blank without one. */
        char letter(int k) {
            return k >= 0 && k < operands.length() ? operands.charAt(k) : ' ';
        }

        /** Which operand is the L: a cell's number, or 0 without. */
        int leadCell() {
            return operands.indexOf('L') + 1;
        }

        /** Whether it makes the lanes of its first register, one by one. */
        boolean makesLanes() {
            return masked && isRegister(letter(0)) && !storesLanes();
        }

        boolean storesLanes() {
            return this == SCATTER || this == STORE;
        }

        /** What it may write: V, M, S or A; another letter if nothing. */
        char target() {
            if (storesLanes()) {
                return 'A';
            }
            return isRegister(letter(0)) ? 'V' : letter(0);
        }

        static boolean isRegister(char letter) {
            return letter >= 'a' && letter <= 'z';
        }

        static boolean isShared(char letter) {
            return letter == 'k' || letter == 'w' || letter == 'r';
        }

        /** The kinds that a register with this letter can have: bit k for kind k. */
        static int kinds(char letter) {
            switch (letter) {
                case 'h':
                case 'w':
                    return (1 << Numbers.FLOAT) - 1;
                case 'r':
                    return 1 << Numbers.FLOAT | 1 << Numbers.DOUBLE;
                case 'i':
                    return 1 << Numbers.INT;
                default:
                    return (1 << KINDS) - 1;
            }
        }
    }

    /** A register or an array. */
    private static final class Row {
        int kind = NONE;
        int length;
        /** The BITS; all rows have room for an array, so that any row can be copied into any other. */
        final long[] items = new long[ELEMENTS];

        boolean has(int i) {
            return i >= 0 && i < length;
        }

        void make(int newKind, int newLength) {
            kind = newKind;
            length = 0;
            reach(newLength);
        }

        void unmake() {
            kind = NONE;
            length = 0;
        }

        /** The length becomes another one (0 .. 64); new items are 0. */
        void reach(int newLength) {
            if (newLength > length && newLength <= ELEMENTS) {
                Arrays.fill(items, length, newLength, 0L);
            }
            length = newLength;
        }

        void copyFrom(Row other) {
            kind = other.kind;
            length = other.length;
            System.arraycopy(other.items, 0, items, 0, other.length);
        }

        boolean isAs(Row other) {
            if (kind != other.kind || length != other.length) {
                return false;
            }
            for (int i = 0; i < length; i++) {
                if (items[i] != other.items[i]) {
                    return false;
                }
            }
            return true;
        }
    }

    /** What an instruction can read and write. */
    private static final class State {
        final Row[] registers = new Row[REGISTERS];
        final Row[] arrays = new Row[REGISTERS];
        final int[] masks = new int[MASKS];
        final long[] scalars = new long[REGISTERS];

        State() {
            for (int i = 0; i < REGISTERS; i++) {
                registers[i] = new Row();
                arrays[i] = new Row();
            }
        }

        void copyFrom(State other) {
            for (int i = 0; i < REGISTERS; i++) {
                registers[i].copyFrom(other.registers[i]);
                arrays[i].copyFrom(other.arrays[i]);
            }
            System.arraycopy(other.masks, 0, masks, 0, MASKS);
            System.arraycopy(other.scalars, 0, scalars, 0, REGISTERS);
        }

        void clearRegisters() {
            for (int i = 0; i < REGISTERS; i++) {
                registers[i].unmake();
            }
            Arrays.fill(masks, 0);
        }

        /** 1 registers, 2 masks, 3 scalars, 4 arrays, 0 if there is none. */
        int firstDifference(State other) {
            if (!areAlike(registers, other.registers)) {
                return 1;
            }
            for (int i = 0; i < MASKS; i++) {
                if (masks[i] != other.masks[i]) {
                    return 2;
                }
            }
            for (int i = 0; i < REGISTERS; i++) {
                if (scalars[i] != other.scalars[i]) {
                    return 3;
                }
            }
            return areAlike(arrays, other.arrays) ? 0 : 4;
        }

        private static boolean areAlike(Row[] some, Row[] others) {
            for (int i = 0; i < REGISTERS; i++) {
                if (!some[i].isAs(others[i])) {
                    return false;
                }
            }
            return true;
        }

        int elements() {
            int all = 0;
            for (int i = 0; i < REGISTERS; i++) {
                all += arrays[i].length;
            }
            return all;
        }

        int firstFreeArray() {
            for (int i = 0; i < REGISTERS; i++) {
                if (arrays[i].kind == NONE) {
                    return i;
                }
            }
            return -1;
        }
    }

    /** Instructions, six cells each: the number, four operands and the mask behind ?, as code() tells them. */
    private static final class Program {
        static final int CELLS = 6;
        static final int MASK_CELL = 5;

        int size;
        int labels;
        private final long[] cells = new long[INSTRUCTIONS * CELLS];

        boolean has(int i) {
            return i >= 0 && i < size;
        }

        Op op(int i) {
            return OPS[(int) cells[i * CELLS]];
        }

        long cell(int i, int what) {
            return cells[i * CELLS + what];
        }

        void write(int i, int what, long value) {
            cells[i * CELLS + what] = value;
        }

        void read(int i, long[] into) {
            System.arraycopy(cells, i * CELLS, into, 0, CELLS);
        }

        /** One more instruction, without operands as yet. */
        void add(int number) {
            Arrays.fill(cells, size * CELLS, (size + 1) * CELLS, -1L);
            write(size, 0, number);
            size++;
        }

        void copyFrom(Program other) {
            size = other.size;
            labels = other.labels;
            System.arraycopy(other.cells, 0, cells, 0, other.size * CELLS);
        }

        /** The instruction to which i leads by its L; -1 if it has none. */
        int lead(int i) {
            int at = op(i).leadCell();
            return at > 0 ? (int) cell(i, at) : -1;
        }

        private boolean isLedTo(int place) {
            for (int i = 0; i < size; i++) {
                if (lead(i) == place) {
                    return true;
                }
            }
            return false;
        }

        /** Does SLIM: how many instructions went. */
        int slimAll() {
            int had = size;
            int i = 0;
            // Each turn goes on by one instruction, or removes one and begins again.
            for (int turn = 0; i < size && turn < INSTRUCTIONS * INSTRUCTIONS; turn++) {
                int needless = needlessAt(i);
                if (needless == 0) {
                    i++;
                } else {
                    remove(i, needless);
                    i = 0;
                }
            }
            return had - size;
        }

        /** How many instructions from i on can go: 0, 1 or 2. */
        private int needlessAt(int i) {
            Op op = op(i);
            if (op == Op.JMP) {
                return lead(i) == i + 1 ? 1 : 0;
            }
            if (i + 1 >= size || op(i + 1) != op || cell(i, 1) != cell(i + 1, 1) || isLedTo(i + 1)) {
                return 0;
            }
            switch (op) {
                case SET:
                case MOV:
                case MSET:
                    return 1;
                case MNOT:
                    return cell(i, 1) == cell(i, 2) && cell(i + 1, 1) == cell(i + 1, 2) ? 2 : 0;
                default:
                    return 0;
            }
        }

        private void remove(int i, int many) {
            int behind = (i + many) * CELLS;
            System.arraycopy(cells, behind, cells, i * CELLS, size * CELLS - behind);
            size -= many;
            for (int k = 0; k < size; k++) {
                int to = lead(k);
                if (to > i) {
                    write(k, op(k).leadCell(), Math.max(i, to - many));
                }
            }
        }
    }

    /** The TAPE, and how a TEXT on it becomes a program. */
    private static final class Reader {
        private static final char WORD = 'w';
        private static final char NUMBER = 'n';
        private static final char END = 'e';
        private static final char BAD = 'b';
        private static final int LINE_FEED = 10;
        private static final int MOST_DIGITS = 18;
        private static final int NOTHING = -1;
        /** What no operand can be: a NUMBER of 18 digits is nearer to 0. */
        private static final long WRONG = Long.MIN_VALUE;

        /** How many bytes the tape has. */
        int held;
        /** What the text says as far as it was read: a text with a FAULT must leave the machine's program alone. */
        final Program program = new Program();
        private final int[] tape = new int[TAPE_BYTES];
        private int size;
        private int at;
        /** The sign itself, or WORD, NUMBER, END, BAD. */
        private char token;
        private int start;
        private boolean over;
        private int labels;
        private final int[] labelStarts = new int[LABELS];
        private final int[] labelLeads = new int[LABELS];

        /** Four bytes, the highest first. */
        void hold(int bytes) {
            for (int shift = 24; shift >= 0 && held < TAPE_BYTES; shift -= 8) {
                tape[held] = bytes >>> shift & 255;
                held++;
            }
        }

        /** Makes the program of the first n bytes: -1, or the place of the FAULT. */
        int translate(int n) {
            program.size = 0;
            size = n;
            at = 0;
            over = false;
            labels = 0;
            // A line takes a byte at least, but for the last one.
            for (int line = 0; line <= n && !over; line++) {
                if (!readLine()) {
                    return start;
                }
            }
            program.labels = labels;
            return setLeads();
        }

        /** Whether it is right; else the token that begins at start is the wrong one. */
        private boolean readLine() {
            advance();
            if (token == WORD && isColonNext()) {
                if (!addLabel()) {
                    return false;
                }
                advance();
                advance();
            }
            if (token == WORD && !readInstruction()) {
                return false;
            }
            return token == END;
        }

        /** Reads an instruction and the token behind it. */
        private boolean readInstruction() {
            int number = numberOfWord();
            if (number < 0 || program.size == INSTRUCTIONS) {
                return false;
            }
            Op op = OPS[number];
            int i = program.size;
            program.add(number);
            for (int k = 0; k < op.operands.length(); k++) {
                advance();
                if (k > 0) {
                    if (token != ',') {
                        return false;
                    }
                    advance();
                }
                long value = operand(op.letter(k));
                if (value == WRONG) {
                    return false;
                }
                program.write(i, k + 1, value);
            }
            advance();
            return !op.masked || token != '?' || readMask(i);
        }

        private boolean readMask(int i) {
            advance();
            long mask = numbered('m', MASKS);
            if (mask == WRONG) {
                return false;
            }
            program.write(i, Program.MASK_CELL, mask);
            advance();
            return true;
        }

        /** What the token says as an operand with that letter (for L its place in the text), or WRONG. */
        private long operand(char letter) {
            switch (letter) {
                case 'M':
                    return numbered('m', MASKS);
                case 'S':
                    return numbered('s', REGISTERS);
                case 'A':
                    return numbered('a', REGISTERS);
                case 'K':
                    return kind();
                case 'L':
                    return token == WORD && at - start <= LABEL_BYTES ? start : WRONG;
                case 'T':
                    return number(1, LANES);
                case 'P':
                    return number(0, LANES - 1);
                case 'U':
                    return number(0, 4294967295L);
                case 'N':
                    return number(-Long.MAX_VALUE, Long.MAX_VALUE);
                default:
                    return numbered('v', REGISTERS);
            }
        }

        private long numbered(char letter, int many) {
            if (token != WORD || at - start != 2 || byteAt(start) != letter) {
                return WRONG;
            }
            int number = byteAt(start + 1) - '0';
            return number >= 0 && number < many ? number : WRONG;
        }

        private long kind() {
            if (token != WORD || at - start != 1) {
                return WRONG;
            }
            int kind = "bhcilfd".indexOf((char) byteAt(start));
            return kind < 0 ? WRONG : kind;
        }

        private long number(long least, long most) {
            if (token != NUMBER) {
                return WRONG;
            }
            boolean negative = byteAt(start) == '-';
            int first = negative ? start + 1 : start;
            if (at - first > MOST_DIGITS) {
                return WRONG;
            }
            long value = 0;
            for (int i = first; i < at; i++) {
                value = value * 10 + (byteAt(i) - '0');
            }
            value = negative ? -value : value;
            return value >= least && value <= most ? value : WRONG;
        }

        private int numberOfWord() {
            for (int number = 0; number < OPS.length; number++) {
                if (isToken(OPS[number].word)) {
                    return number;
                }
            }
            return -1;
        }

        private boolean isToken(String word) {
            if (word.length() != at - start) {
                return false;
            }
            for (int i = 0; i < word.length(); i++) {
                if (word.charAt(i) != byteAt(start + i)) {
                    return false;
                }
            }
            return true;
        }

        private boolean addLabel() {
            if (at - start > LABEL_BYTES || labels == LABELS || labelLike(start) >= 0) {
                return false;
            }
            labelStarts[labels] = start;
            labelLeads[labels] = program.size;
            labels++;
            return true;
        }

        /** The label with the same WORD as stands there, or -1. */
        private int labelLike(int place) {
            for (int k = 0; k < labels; k++) {
                if (isSameWord(labelStarts[k], place)) {
                    return k;
                }
            }
            return -1;
        }

        /** Of two WORDS of 12 bytes at most. */
        private boolean isSameWord(int one, int other) {
            for (int i = 0; i <= LABEL_BYTES; i++) {
                int b = byteAt(one + i);
                int c = byteAt(other + i);
                if (!isOfWord(b) && !isOfWord(c)) {
                    return true;
                }
                if (b != c) {
                    return false;
                }
            }
            return true;
        }

        /** Puts instructions in place of the labels' WORDS: -1, or the place of the first one that is no LABEL. */
        private int setLeads() {
            for (int i = 0; i < program.size; i++) {
                int place = program.lead(i);
                if (place >= 0) {
                    int label = labelLike(place);
                    if (label < 0) {
                        return place;
                    }
                    program.write(i, program.op(i).leadCell(), labelLeads[label]);
                }
            }
            return -1;
        }

        private void advance() {
            while (at < size && tape[at] == ' ') {
                at++;
            }
            start = at;
            int first = byteAt(at);
            if (isLetter(first)) {
                token = WORD;
                while (at < size && isOfWord(tape[at])) {
                    at++;
                }
            } else if (isDigit(first) || first == '-' && isDigit(byteAt(at + 1))) {
                token = NUMBER;
                at++;
                while (at < size && isDigit(tape[at])) {
                    at++;
                }
            } else if (first == ',' || first == ':' || first == '?') {
                token = (char) first;
                at++;
            } else if (first == NOTHING || first == LINE_FEED || first == ';') {
                token = END;
                skipLine();
            } else {
                token = BAD;
            }
        }

        private void skipLine() {
            while (at < size && tape[at] != LINE_FEED) {
                at++;
            }
            if (at < size) {
                at++;
            } else {
                over = true;
            }
        }

        private boolean isColonNext() {
            int next = at;
            while (next < size && tape[next] == ' ') {
                next++;
            }
            return byteAt(next) == ':';
        }

        private int byteAt(int i) {
            return i >= 0 && i < size ? tape[i] : NOTHING;
        }

        private static boolean isLetter(int b) {
            return b >= 'a' && b <= 'z';
        }

        private static boolean isDigit(int b) {
            return b >= '0' && b <= '9';
        }

        private static boolean isOfWord(int b) {
            return isLetter(b) || isDigit(b);
        }
    }

    /** FLOW, worked out when it is asked for the first time after a change of the program. */
    private static final class Flow {
        /** The ways of one register at one instruction: bit L - 1 of number k for kind k and LENGTH L, and for NONE. */
        private static final int WAYS = KINDS + 1;
        private static final int WAYS_OF_ALL = REGISTERS * WAYS;
        /** A way comes to each instruction on a path of fewer than 100, and to its set on another such. */
        private static final int MOST_PASSES = 2 * INSTRUCTIONS + 1;

        private final int[] may = new int[INSTRUCTIONS * WAYS_OF_ALL];
        private final boolean[] reached = new boolean[INSTRUCTIONS];
        /** Whether something came to it that has not flowed on as yet. */
        private final boolean[] grown = new boolean[INSTRUCTIONS];
        private boolean known;

        void forget() {
            known = false;
        }

        boolean isReached(int i) {
            return reached[i];
        }

        int ways(int i, int register) {
            int first = i * WAYS_OF_ALL + register * WAYS;
            int ways = 0;
            for (int k = 0; k < WAYS; k++) {
                ways += Integer.bitCount(may[first + k]);
            }
            return ways;
        }

        void follow(Program program) {
            if (known) {
                return;
            }
            known = true;
            clear();
            if (program.size == 0) {
                return;
            }
            for (int r = 0; r < REGISTERS; r++) {
                may[r * WAYS + KINDS] = 1;
            }
            reached[0] = true;
            grown[0] = true;
            boolean more = true;
            for (int pass = 0; more && pass < MOST_PASSES; pass++) {
                more = false;
                for (int i = 0; i < program.size; i++) {
                    if (grown[i]) {
                        grown[i] = false;
                        more = true;
                        flowOn(program, i);
                    }
                }
            }
        }

        private void clear() {
            Arrays.fill(may, 0);
            for (int i = 0; i < INSTRUCTIONS; i++) {
                reached[i] = false;
                grown[i] = false;
            }
        }

        private void flowOn(Program program, int i) {
            switch (program.op(i)) {
                case JMP:
                case CALL:
                    flowTo(program, i, program.lead(i));
                    break;
                case JEQ:
                case JNE:
                case JLT:
                case JLE:
                case LOOP:
                    flowTo(program, i, program.lead(i));
                    flowTo(program, i, i + 1);
                    break;
                case RET:
                    for (int k = 0; k < program.size; k++) {
                        if (program.op(k) == Op.CALL) {
                            flowTo(program, i, k + 1);
                        }
                    }
                    break;
                case END:
                    break;
                default:
                    flowTo(program, i, i + 1);
                    break;
            }
        }

        private void flowTo(Program program, int from, int to) {
            if (!program.has(to)) {
                return;
            }
            boolean grows = !reached[to];
            boolean sets = program.op(from) == Op.SET;
            for (int k = 0; k < WAYS_OF_ALL; k++) {
                int ways = sets && k / WAYS == program.cell(from, 1)
                        ? waysOfSet(program, from, k % WAYS)
                        : may[from * WAYS_OF_ALL + k];
                int cell = to * WAYS_OF_ALL + k;
                if ((ways & ~may[cell]) != 0) {
                    may[cell] |= ways;
                    grows = true;
                }
            }
            reached[to] = true;
            if (grows) {
                grown[to] = true;
            }
        }

        private static int waysOfSet(Program program, int i, int kind) {
            return program.cell(i, 2) == kind ? 1 << (int) program.cell(i, 3) - 1 : 0;
        }

        boolean isGood(Program program, int i) {
            for (int kind = 0; kind < KINDS; kind++) {
                if (goodLengths(program, i, kind) != 0) {
                    return true;
                }
            }
            return false;
        }

        /** The lengths that all registers can have if those that share a kind share this one. */
        private int goodLengths(Program program, int i, int kind) {
            Op op = program.op(i);
            int lengths = -1;
            for (int k = 0; k < op.operands.length(); k++) {
                if (Op.isRegister(op.letter(k)) && op != Op.SET) {
                    int first = i * WAYS_OF_ALL + ((int) program.cell(i, k + 1) & 7) * WAYS;
                    lengths &= lengthsOf(first, kindsOfOperand(program, i, k, kind));
                } else if (op.letter(k) == 'P') {
                    lengths &= -1 << (int) program.cell(i, k + 1);
                }
            }
            return lengths;
        }

        /** The kinds by which the register of operand k fits, also where it is named elsewhere: bit k for kind k. */
        private static int kindsOfOperand(Program program, int i, int k, int shared) {
            Op op = program.op(i);
            int kinds = -1;
            for (int other = 0; other < op.operands.length(); other++) {
                char letter = op.letter(other);
                if (Op.isRegister(letter) && program.cell(i, other + 1) == program.cell(i, k + 1)) {
                    kinds &= Op.kinds(letter) & (Op.isShared(letter) ? 1 << shared : -1);
                }
            }
            return kinds;
        }

        private int lengthsOf(int first, int kinds) {
            int lengths = 0;
            for (int kind = 0; kind < KINDS; kind++) {
                if ((kinds >> kind & 1) != 0) {
                    lengths |= may[first + kind];
                }
            }
            return lengths;
        }
    }

    /**
     * Numbers as their BITS. Those of REAL kinds are worked out in whole numbers, since a float's bits can't be had
     * otherwise: a number is its significand times 2 to its exponent, and a result that is not exact carries a last 1
     * far behind the place where it is rounded.
     */
    private static final class Numbers {
        static final int BYTE = 0;
        static final int SHORT = 1;
        static final int CHAR = 2;
        static final int INT = 3;
        static final int LONG = 4;
        static final int FLOAT = 5;
        static final int DOUBLE = 6;

        /** Numbers of leading noughts in a long of 53 bits, the significand of a DOUBLE. */
        private static final int NOUGHTS = 11;
        private static final long LOW_27 = (1L << 27) - 1;
        private static final int MOST_DOUBLE_STEPS = 2045;

        static boolean isReal(int kind) {
            return kind >= FLOAT;
        }

        static int width(int kind) {
            switch (kind) {
                case BYTE:
                    return 8;
                case SHORT:
                case CHAR:
                    return 16;
                case INT:
                    return 32;
                default:
                    return 64;
            }
        }

        static long lowBits(int kind, long v) {
            switch (kind) {
                case BYTE:
                    return (byte) v;
                case SHORT:
                    return (short) v;
                case CHAR:
                    return (char) v;
                case INT:
                    return (int) v;
                default:
                    return v;
            }
        }

        /** v, or the least or greatest number of a whole kind if it is beyond. */
        static long hold(int kind, long v) {
            long greatest = kind == CHAR ? 65535 : Long.MAX_VALUE >> 64 - width(kind);
            long least = kind == CHAR ? 0 : -greatest - 1;
            return Math.max(least, Math.min(greatest, v));
        }

        static long put(int kind, long v) {
            return isReal(kind) ? real(kind, v) : lowBits(kind, v);
        }

        static long cast(int from, int to, long bits) {
            if (isReal(to)) {
                return isReal(from)
                        ? pack(to, bits < 0, significand(from, bits), exponent(from, bits))
                        : real(to, bits);
            }
            if (!isReal(from) || to == LONG) {
                return lowBits(to, whole(from, bits));
            }
            return lowBits(to, hold(INT, whole(from, bits)));
        }

        static long turned(int kind, long bits) {
            return isReal(kind) ? bits ^ signBits(kind) : lowBits(kind, -bits);
        }

        static long withoutSign(int kind, long bits) {
            return bits >= 0 ? bits : turned(kind, bits);
        }

        /** Longs that are IN ORDER as the numbers are. */
        static long order(int kind, long bits) {
            return isReal(kind) && bits < 0 ? ~magnitude(kind, bits) : bits;
        }

        /** Longs that compare as the numbers do, 0 and -0 the same. */
        static long value(int kind, long bits) {
            return isReal(kind) && bits < 0 ? -magnitude(kind, bits) : bits;
        }

        static boolean isZero(int kind, long bits) {
            return value(kind, bits) == 0;
        }

        static boolean isInfinite(int kind, long bits) {
            return isReal(kind) && magnitude(kind, bits) >= infinite(kind);
        }

        /** The bits that a sign turns: a FLOAT's int goes on to the left with it. */
        private static long signBits(int kind) {
            return kind == FLOAT ? -1L << 31 : Long.MIN_VALUE;
        }

        private static long magnitude(int kind, long bits) {
            return bits & (kind == FLOAT ? Integer.MAX_VALUE : Long.MAX_VALUE);
        }

        private static long infinite(int kind) {
            return kind == FLOAT ? 255L << 23 : 2047L << 52;
        }

        private static int fractionBits(int kind) {
            return kind == FLOAT ? 23 : 52;
        }

        private static int leastExponent(int kind) {
            return kind == FLOAT ? -149 : -1074;
        }

        private static long significand(int kind, long bits) {
            int fraction = fractionBits(kind);
            long magnitude = magnitude(kind, bits);
            long low = magnitude & (1L << fraction) - 1;
            return magnitude >>> fraction == 0 ? low : low | 1L << fraction;
        }

        private static int exponent(int kind, long bits) {
            int field = (int) (magnitude(kind, bits) >>> fractionBits(kind));
            return leastExponent(kind) + Math.max(field - 1, 0);
        }

        /** The NEAREST to m times 2 to the e (m is 0 or more), infinite if it is beyond all numbers. */
        private static long pack(int kind, boolean negative, long m, int e) {
            long sign = negative ? signBits(kind) : 0;
            if (m == 0) {
                return sign;
            }
            int fraction = fractionBits(kind);
            int least = leastExponent(kind);
            int shift = Math.max(63 - Long.numberOfLeadingZeros(m) - fraction, least - e);
            if (shift > 63) {
                return sign;
            }
            long rounded = m;
            if (shift > 0) {
                long rest = m & (1L << shift) - 1;
                long half = 1L << shift - 1;
                rounded = m >>> shift;
                if (rest > half || rest == half && (rounded & 1) != 0) {
                    rounded++;
                }
            } else {
                rounded = m << -shift;
            }
            int steps = e + shift - least;
            if (steps > MOST_DOUBLE_STEPS) {
                return sign | infinite(kind);
            }
            // The significand's first bit, if it is there, makes the exponent's field 1 more than the steps.
            return sign | Math.min(infinite(kind), ((long) steps << fraction) + rounded);
        }

        private static long real(int kind, long v) {
            // The least long has no magnitude among the longs.
            return v == Long.MIN_VALUE ? pack(kind, true, 1L << 62, 1) : pack(kind, v < 0, Math.abs(v), 0);
        }

        /** Cut towards 0, and held to the least and the greatest long. */
        static long whole(int kind, long bits) {
            if (!isReal(kind)) {
                return bits;
            }
            long m = significand(kind, bits);
            int e = exponent(kind, bits);
            if (e > Long.numberOfLeadingZeros(m) - 1) {
                return bits < 0 ? Long.MIN_VALUE : Long.MAX_VALUE;
            }
            long cut = e >= 0 ? m << e : e < -63 ? 0 : m >> -e;
            return bits < 0 ? -cut : cut;
        }

        static long sum(int kind, long x, long y) {
            boolean xFirst = exponent(kind, x) >= exponent(kind, y);
            long great = xFirst ? x : y;
            long small = xFirst ? y : x;
            int e = exponent(kind, great);
            int apart = e - exponent(kind, small);
            // Eight bits more keep what is needed to round: bits are lost only if the great one has all of its own.
            long m = significand(kind, great) << 8;
            long n = moved(significand(kind, small) << 8, apart);
            long total = (great < 0 ? -m : m) + (small < 0 ? -n : n);
            boolean negative = total < 0 || total == 0 && x < 0 && y < 0;
            return pack(kind, negative, Math.abs(total), e - 8);
        }

        /** Moved to the right; the last bit is 1 also if a 1 went. */
        private static long moved(long m, int by) {
            if (by > 62) {
                return m == 0 ? 0 : 1;
            }
            return m >>> by | ((m & (1L << by) - 1) == 0 ? 0 : 1);
        }

        static long product(int kind, long x, long y) {
            boolean negative = (x < 0) != (y < 0);
            long m = significand(kind, x);
            long n = significand(kind, y);
            if (m == 0 || n == 0) {
                return pack(kind, negative, 0, 0);
            }
            int up = Long.numberOfLeadingZeros(m) - NOUGHTS;
            int more = Long.numberOfLeadingZeros(n) - NOUGHTS;
            m <<= up;
            n <<= more;
            // 106 bits in three parts, of which the first 62 are kept.
            long low = (m & LOW_27) * (n & LOW_27);
            long middle = (m >> 27) * (n & LOW_27) + (m & LOW_27) * (n >> 27) + (low >> 27);
            long high = (m >> 27) * (n >> 27);
            long top = (high << 10) + (middle >> 17);
            boolean exact = (low & LOW_27) == 0 && (middle & (1L << 17) - 1) == 0;
            int e = exponent(kind, x) + exponent(kind, y) - up - more + 44;
            return pack(kind, negative, exact ? top : top | 1, e);
        }

        /** y is not 0. */
        static long quotient(int kind, long x, long y) {
            boolean negative = (x < 0) != (y < 0);
            long m = significand(kind, x);
            long n = significand(kind, y);
            if (m == 0 || n == 0) {
                return pack(kind, negative, 0, 0);
            }
            int up = Long.numberOfLeadingZeros(m) - NOUGHTS;
            int more = Long.numberOfLeadingZeros(n) - NOUGHTS;
            m <<= up;
            n <<= more;
            long quotient = m / n;
            long rest = m % n;
            for (int k = 0; k < 6; k++) {
                rest <<= 10;
                quotient = (quotient << 10) + rest / n;
                rest %= n;
            }
            int e = exponent(kind, x) - exponent(kind, y) - up + more - 60;
            return pack(kind, negative, rest == 0 ? quotient : quotient | 1, e);
        }

        /** y is not 0. */
        static long rest(int kind, long x, long y) {
            long n = significand(kind, y);
            int e = exponent(kind, y);
            int apart = exponent(kind, x) - e;
            // With the greater exponent y has its first bit, and so is the greater one.
            if (n == 0 || apart < 0) {
                return x;
            }
            long rest = significand(kind, x) % n;
            for (int left = apart; left > 0 && rest != 0; left -= 10) {
                rest = (rest << Math.min(left, 10)) % n;
            }
            return pack(kind, x < 0, rest, e);
        }

        /** x is not below 0. */
        static long root(int kind, long x) {
            long m = significand(kind, x);
            if (m == 0) {
                return x;
            }
            int up = Long.numberOfLeadingZeros(m) - NOUGHTS;
            int e = exponent(kind, x) - up;
            m <<= up + (e & 1);
            e -= e & 1;
            long root = 0;
            long rest = 0;
            // Two bits for each bit of the root: 27 pairs of m and 30 of noughts behind it.
            for (int pair = 26; pair >= -30; pair--) {
                long next = pair >= 0 ? m >> 2 * pair & 3 : 0;
                rest = (rest << 2) + next;
                long trial = (root << 2) + 1;
                root <<= 1;
                if (rest >= trial) {
                    rest -= trial;
                    root++;
                }
            }
            return pack(kind, false, rest == 0 ? root : root | 1, e / 2 - 30);
        }
    }

    /** A register, mask, scalar or array as it was. */
    private static final class Saved {
        private static final char NOTHING = ' ';

        private char sort = NOTHING;
        private int number;
        private long value;
        private final Row row = new Row();

        void clear() {
            sort = NOTHING;
        }

        boolean isClear() {
            return sort == NOTHING;
        }

        /** The letters are those of operands; any but these four stands for nothing. */
        void take(State state, char what, int which) {
            sort = what;
            number = which & 7;
            switch (sort) {
                case 'V':
                    row.copyFrom(state.registers[number]);
                    break;
                case 'A':
                    row.copyFrom(state.arrays[number]);
                    break;
                case 'M':
                    value = state.masks[number & 3];
                    break;
                case 'S':
                    value = state.scalars[number];
                    break;
                default:
                    break;
            }
        }

        void giveBack(State state) {
            switch (sort) {
                case 'V':
                    state.registers[number].copyFrom(row);
                    break;
                case 'A':
                    state.arrays[number].copyFrom(row);
                    break;
                case 'M':
                    state.masks[number & 3] = (int) value;
                    break;
                case 'S':
                    state.scalars[number] = value;
                    break;
                default:
                    break;
            }
        }

        /** Whether it is an array of which a watched element has other BITS by now. */
        boolean isChanged(State state, long[] watched) {
            if (sort != 'A') {
                return false;
            }
            Row is = state.arrays[number];
            for (int i = 0; i < row.length; i++) {
                if ((watched[number] >> i & 1) != 0 && row.items[i] != is.items[i]) {
                    return true;
                }
            }
            return false;
        }
    }

    /** THE LIST OF STEPS, in a ring. */
    private static final class Trail {
        int held;
        final int[] places = new int[LISTED_STEPS];
        final int[] lanes = new int[LISTED_STEPS];
        /** How many calls were open ahead of the step, and to where the latest of them leads back. */
        final int[] opens = new int[LISTED_STEPS];
        final int[] returns = new int[LISTED_STEPS];
        /** What is about to be written by the instruction that comes next. */
        Saved next = new Saved();
        private int latest;
        private final Saved[] ahead = new Saved[LISTED_STEPS];
        /** What instructions with a FAULT wrote behind the step; they all write the same thing, as PC stays. */
        private final Saved[] behind = new Saved[LISTED_STEPS];

        Trail() {
            for (int k = 0; k < LISTED_STEPS; k++) {
                ahead[k] = new Saved();
                behind[k] = new Saved();
            }
        }

        void empty() {
            held = 0;
        }

        int slot(int k) {
            return (latest - k) & LISTED_STEPS - 1;
        }

        void add(int place, int lanesDone, int open, int returnPlace) {
            latest = slot(-1);
            held = Math.min(held + 1, LISTED_STEPS);
            places[latest] = place;
            lanes[latest] = lanesDone;
            opens[latest] = open;
            returns[latest] = returnPlace;
            Saved free = ahead[latest];
            ahead[latest] = next;
            next = free;
            behind[latest].clear();
        }

        /** The instruction with a FAULT may have written something. */
        void addFault() {
            if (held > 0 && behind[latest].isClear()) {
                Saved free = behind[latest];
                behind[latest] = next;
                next = free;
            }
        }

        /** Takes the latest step off the list: its slot. */
        int drop(State state) {
            int slot = latest;
            behind[slot].giveBack(state);
            ahead[slot].giveBack(state);
            latest = slot(1);
            held--;
            return slot;
        }

        Saved aheadOfLatest() {
            return ahead[latest];
        }
    }

    /** Does the instructions of lanes, one at a time. */
    private static final class Lanes {
        final State state = new State();
        /** The instruction: its cells. */
        final long[] cell = new long[Program.CELLS];
        /** Of its FAULT, or -1. */
        int lane;
        /** The lanes and elements that it wrote, if it had no FAULT. */
        int written;

        /** The registers in the order of the operands. */
        private final Row[] rows = new Row[3];
        private Row elements = state.arrays[0];
        private int maskNumber;
        private int scalarNumber;
        private int on;
        private int fault;
        /** The second and the third register as they were ahead. */
        private final long[] left = new long[LANES];
        private final long[] right = new long[LANES];
        private long total;
        private boolean begun;

        Lanes() {
            for (int k = 0; k < rows.length; k++) {
                rows[k] = state.registers[0];
            }
        }

        /** Looks up what the instruction names: 0, or its FAULT of kinds and lengths. */
        int bind(Op op) {
            int count = 0;
            for (int k = 0; k < op.operands.length(); k++) {
                char letter = op.letter(k);
                int number = (int) cell[k + 1] & 7;
                if (Op.isRegister(letter) && count < rows.length) {
                    rows[count] = state.registers[number];
                    count++;
                } else if (letter == 'A') {
                    elements = state.arrays[number];
                } else if (letter == 'M') {
                    maskNumber = number & 3;
                } else if (letter == 'S') {
                    scalarNumber = number;
                }
            }
            on = below(rows[0].length);
            if (cell[Program.MASK_CELL] >= 0) {
                on &= state.masks[(int) cell[Program.MASK_CELL] & 3];
            }
            System.arraycopy(rows[1].items, 0, left, 0, LANES);
            System.arraycopy(rows[2].items, 0, right, 0, LANES);
            fault = 0;
            return misfit(op);
        }

        private int misfit(Op op) {
            int shared = NONE;
            int seen = 0;
            boolean uneven = false;
            for (int k = 0; k < op.operands.length() && op != Op.SET; k++) {
                char letter = op.letter(k);
                if (Op.isRegister(letter) && seen < rows.length) {
                    Row row = rows[seen];
                    seen++;
                    if (row.kind == NONE || (Op.kinds(letter) >> row.kind & 1) == 0) {
                        return KIND;
                    }
                    if (Op.isShared(letter)) {
                        if (shared != NONE && shared != row.kind) {
                            return KIND;
                        }
                        shared = row.kind;
                    }
                    uneven |= row.length != rows[0].length;
                }
            }
            if (uneven) {
                return LENGTH;
            }
            if (op.operands.indexOf('A') < 0) {
                return 0;
            }
            if (elements.kind == NONE) {
                return NULL;
            }
            return elements.kind == rows[0].kind ? 0 : KIND;
        }

        private static int below(int length) {
            return length >= LANES ? -1 : (1 << length) - 1;
        }

        private boolean isOn(int i) {
            return (on >> i & 1) != 0;
        }

        private boolean isInMask(int i) {
            return (state.masks[maskNumber] >> i & 1) != 0;
        }

        /** Does an instruction that makes the first register's lanes. */
        int makeLanes(Op op) {
            Row to = rows[0];
            begun = false;
            for (int i = 0; i < to.length; i++) {
                if (isOn(i)) {
                    long made = made(op, i);
                    if (fault != 0) {
                        lane = i;
                        return fault;
                    }
                    to.items[i] = made;
                }
            }
            written = Integer.bitCount(on);
            return 0;
        }

        /** What lane i becomes. */
        private long made(Op op, int i) {
            int kind = rows[0].kind;
            switch (op) {
                case ADD:
                case SUB:
                case MUL:
                case DIV:
                case REM:
                case MIN:
                case MAX:
                case AND:
                case OR:
                case XOR:
                    return Numbers.isReal(kind)
                            ? ofReals(op, kind, left[i], right[i])
                            : ofWholes(op, kind, left[i], right[i]);
                case SHL:
                case SHR:
                case USH:
                    return shifted(op, kind, left[i]);
                case NEG:
                    return Numbers.turned(kind, left[i]);
                case ABS:
                    return Numbers.withoutSign(kind, left[i]);
                case SQRT:
                    return rooted(kind, left[i]);
                case CAST:
                    return ranged(kind, Numbers.cast(rows[1].kind, kind, left[i]));
                case SAT:
                    return Numbers.hold(kind, Numbers.whole(rows[1].kind, left[i]));
                case GATHER:
                case LOAD:
                    return elements.items[element(op, i)];
                case FILL:
                    return Numbers.put(kind, state.scalars[scalarNumber]);
                case IOTA:
                    return Numbers.put(kind, state.scalars[scalarNumber] + i);
                case SCAN:
                    total = begun ? added(kind, total, left[i]) : left[i];
                    begun = true;
                    return total;
                default:
                    return fetched(op, i);
            }
        }

        /** The lane that comes to lane i from elsewhere. */
        private long fetched(Op op, int i) {
            int length = rows[0].length;
            switch (op) {
                case SHUF:
                    if (right[i] < 0 || right[i] >= length) {
                        fault = BOUNDS;
                        return 0;
                    }
                    return left[(int) right[i]];
                case ROT:
                    return left[(i + (int) Math.floorMod(state.scalars[scalarNumber], (long) length)) % length];
                case REV:
                    return left[length - 1 - i];
                default:
                    return i % 2 == 0 ? left[i / 2] : right[i / 2];
            }
        }

        private long ofWholes(Op op, int kind, long x, long y) {
            switch (op) {
                case ADD:
                    return Numbers.lowBits(kind, x + y);
                case SUB:
                    return Numbers.lowBits(kind, x - y);
                case MUL:
                    return Numbers.lowBits(kind, x * y);
                case DIV:
                case REM:
                    if (y == 0) {
                        fault = ZERO;
                        return 0;
                    }
                    return Numbers.lowBits(kind, op == Op.DIV ? x / y : x % y);
                case MIN:
                    return Math.min(x, y);
                case MAX:
                    return Math.max(x, y);
                case AND:
                    return x & y;
                case OR:
                    return x | y;
                default:
                    return x ^ y;
            }
        }

        private long ofReals(Op op, int kind, long x, long y) {
            switch (op) {
                case ADD:
                    return ranged(kind, Numbers.sum(kind, x, y));
                case SUB:
                    return ranged(kind, Numbers.sum(kind, x, Numbers.turned(kind, y)));
                case MUL:
                    return ranged(kind, Numbers.product(kind, x, y));
                case DIV:
                case REM:
                    if (Numbers.isZero(kind, y)) {
                        fault = ZERO;
                        return 0;
                    }
                    return op == Op.DIV ? ranged(kind, Numbers.quotient(kind, x, y)) : Numbers.rest(kind, x, y);
                case MIN:
                    return Numbers.order(kind, x) <= Numbers.order(kind, y) ? x : y;
                default:
                    return Numbers.order(kind, x) >= Numbers.order(kind, y) ? x : y;
            }
        }

        private long ranged(int kind, long bits) {
            if (Numbers.isInfinite(kind, bits)) {
                fault = RANGE;
            }
            return bits;
        }

        private long added(int kind, long x, long y) {
            return Numbers.isReal(kind) ? ranged(kind, Numbers.sum(kind, x, y)) : Numbers.lowBits(kind, x + y);
        }

        private long rooted(int kind, long x) {
            if (Numbers.value(kind, x) < 0) {
                fault = RANGE;
                return 0;
            }
            return Numbers.root(kind, x);
        }

        private long shifted(Op op, int kind, long x) {
            int width = Numbers.width(kind);
            int by = (int) state.scalars[scalarNumber] & width - 1;
            switch (op) {
                case SHL:
                    return Numbers.lowBits(kind, x << by);
                case SHR:
                    return x >> by;
                default:
                    return Numbers.lowBits(kind, (x & -1L >>> 64 - width) >>> by);
            }
        }

        /** The element that lane i is about; with a FAULT 0. */
        private int element(Op op, int i) {
            long place;
            if (op == Op.GATHER || op == Op.SCATTER) {
                place = left[i];
            } else {
                long first = state.scalars[scalarNumber];
                // Far off the sum could go round.
                place = first > ELEMENTS ? ELEMENTS : first + i;
            }
            if (place < 0 || place >= elements.length) {
                fault = BOUNDS;
                return 0;
            }
            return (int) place;
        }

        /** Does any other instruction of lanes. */
        int perform(Op op) {
            switch (op) {
                case SET:
                    rows[0].make((int) cell[2], (int) cell[3]);
                    written = rows[0].length;
                    break;
                case EQ:
                case NE:
                case LT:
                case LE:
                case GT:
                case GE:
                    compare(op);
                    break;
                case SEL:
                    select();
                    break;
                case SCATTER:
                case STORE:
                    store(op);
                    break;
                case PACK:
                    pack();
                    break;
                case SPREAD:
                    spread();
                    break;
                case SORT:
                    sort();
                    break;
                case HALF:
                    halve();
                    break;
                case SUM:
                case LEAST:
                case MOST:
                    fold(op);
                    break;
                default:
                    moveOne(op);
                    break;
            }
            return fault;
        }

        private void compare(Op op) {
            int bits = state.masks[maskNumber] & ~on & below(rows[0].length);
            int kind = rows[0].kind;
            for (int i = 0; i < rows[0].length; i++) {
                long x = Numbers.value(kind, rows[0].items[i]);
                long y = Numbers.value(kind, rows[1].items[i]);
                if (isOn(i) && isSo(op, x, y)) {
                    bits |= 1 << i;
                }
            }
            state.masks[maskNumber] = bits;
        }

        private static boolean isSo(Op op, long x, long y) {
            switch (op) {
                case EQ:
                    return x == y;
                case NE:
                    return x != y;
                case LT:
                    return x < y;
                case LE:
                    return x <= y;
                case GT:
                    return x > y;
                default:
                    return x >= y;
            }
        }

        private void select() {
            for (int i = 0; i < rows[0].length; i++) {
                rows[0].items[i] = isInMask(i) ? left[i] : right[i];
            }
            written = rows[0].length;
        }

        private void store(Op op) {
            for (int i = 0; i < rows[0].length; i++) {
                if (isOn(i)) {
                    int to = element(op, i);
                    if (fault != 0) {
                        lane = i;
                        return;
                    }
                    elements.items[to] = rows[0].items[i];
                }
            }
            written = Integer.bitCount(on);
        }

        private void pack() {
            for (int i = 0; i < rows[0].length; i++) {
                if (isInMask(i)) {
                    rows[0].items[written] = left[i];
                    written++;
                }
            }
        }

        private void spread() {
            for (int i = 0; i < rows[0].length; i++) {
                if (isInMask(i)) {
                    rows[0].items[i] = left[written];
                    written++;
                }
            }
        }

        private void sort() {
            int kind = rows[0].kind;
            long[] to = rows[0].items;
            for (int i = 0; i < rows[0].length; i++) {
                long item = left[i];
                int at = i;
                for (; at > 0 && Numbers.order(kind, to[at - 1]) > Numbers.order(kind, item); at--) {
                    to[at] = to[at - 1];
                }
                to[at] = item;
            }
            written = rows[0].length;
        }

        private void halve() {
            int kind = rows[0].kind;
            for (int n = rows[0].length; n > 1; n = (n + 1) / 2) {
                int half = (n + 1) / 2;
                for (int i = 0; i < n - half; i++) {
                    left[i] = added(kind, left[i], left[i + half]);
                    if (fault != 0) {
                        lane = i;
                        return;
                    }
                }
            }
            rows[0].items[0] = left[0];
            written = 1;
        }

        private void fold(Op op) {
            long sum = 0;
            long least = Long.MAX_VALUE;
            long most = Long.MIN_VALUE;
            for (int i = 0; i < rows[0].length; i++) {
                if (isOn(i)) {
                    long item = rows[0].items[i];
                    sum += item;
                    least = Math.min(least, item);
                    most = Math.max(most, item);
                }
            }
            if (op == Op.SUM) {
                state.scalars[scalarNumber] = sum;
            } else if (on != 0) {
                state.scalars[scalarNumber] = op == Op.LEAST ? least : most;
            }
        }

        /** get and put. */
        private void moveOne(Op op) {
            Row row = rows[0];
            int place = (int) cell[op == Op.GET ? 3 : 2];
            if (!row.has(place)) {
                lane = place;
                fault = BOUNDS;
            } else if (op == Op.GET) {
                state.scalars[scalarNumber] = row.items[place];
            } else {
                row.items[place] = Numbers.put(row.kind, state.scalars[scalarNumber]);
                written = 1;
            }
        }
    }

    /** Goes through the program step by step, and back. */
    private static final class Processor {
        final Program program = new Program();
        final Trail trail = new Trail();
        int pc;
        int open;
        int steps;
        int lanesDone;
        boolean ended = true;
        int fault;
        int faultPlace;
        int faultLane;

        private final Lanes lanes = new Lanes();
        final State state = lanes.state;
        private final long[] cell = lanes.cell;
        private final int[] masks = state.masks;
        private final long[] scalars = state.scalars;
        private final int[] returns = new int[OPEN_CALLS];

        /** BEGIN. */
        void startOver() {
            state.clearRegisters();
            pc = 0;
            open = 0;
            steps = 0;
            lanesDone = 0;
            ended = program.size == 0;
            fault = 0;
            trail.empty();
        }

        /** Does the instruction at PC, if it has not ended: 0, or its FAULT. */
        int step() {
            int place = pc;
            if (ended || !program.has(place)) {
                return 0;
            }
            Op op = program.op(place);
            program.read(place, cell);
            lanes.lane = -1;
            lanes.written = 0;
            fault = cell[0] < FIRST_OF_MASKS ? lanes.bind(op) : 0;
            faultPlace = place;
            faultLane = -1;
            if (fault != 0) {
                return fault;
            }
            int calls = open;
            int top = latestReturn();
            trail.next.take(state, op.target(), (int) cell[op.storesLanes() ? 2 : 1]);
            pc = place + 1;
            if (op.makesLanes()) {
                fault = lanes.makeLanes(op);
            } else if (cell[0] < FIRST_OF_MASKS) {
                fault = lanes.perform(op);
            } else if (cell[0] < FIRST_OF_SCALARS) {
                useMasks(op);
            } else if (cell[0] < FIRST_OF_PLACES) {
                fault = useScalars(op);
            } else {
                fault = lead(op);
            }
            if (fault != 0) {
                pc = place;
                faultLane = lanes.lane;
                trail.addFault();
                return fault;
            }
            ended |= pc >= program.size;
            steps++;
            lanesDone += lanes.written;
            trail.add(place, lanes.written, calls, top);
            return 0;
        }

        /** Whether the step that was done just now changed a watched element. */
        boolean changedOneOf(long[] watched) {
            return trail.aheadOfLatest().isChanged(state, watched);
        }

        /** The place of the step that was TAKEN BACK, or -1. */
        int takeBack() {
            if (trail.held == 0) {
                return -1;
            }
            int slot = trail.drop(state);
            pc = trail.places[slot];
            open = trail.opens[slot];
            if (open > 0) {
                returns[open - 1] = trail.returns[slot];
            }
            steps--;
            lanesDone -= trail.lanes[slot];
            ended = false;
            fault = 0;
            return pc;
        }

        private int latestReturn() {
            return open > 0 ? returns[open - 1] : -1;
        }

        private void useMasks(Op op) {
            int to = (int) cell[1] & 3;
            int x = masks[(int) cell[2] & 3];
            int y = masks[(int) cell[3] & 3];
            switch (op) {
                case MAND:
                    masks[to] = x & y;
                    break;
                case MOR:
                    masks[to] = x | y;
                    break;
                case MXOR:
                    masks[to] = x ^ y;
                    break;
                case MNOT:
                    masks[to] = ~x;
                    break;
                case MSET:
                    masks[to] = (int) cell[2];
                    break;
                case MCOUNT:
                    scalars[(int) cell[1] & 7] = Integer.bitCount(x);
                    break;
                default:
                    scalars[(int) cell[1] & 7] = x == 0 ? -1 : Integer.numberOfTrailingZeros(x);
                    break;
            }
        }

        private int useScalars(Op op) {
            int to = (int) cell[1] & 7;
            long x = scalars[(int) cell[2] & 7];
            long y = scalars[(int) cell[3] & 7];
            switch (op) {
                case MOV:
                    scalars[to] = cell[2];
                    break;
                case SADD:
                    scalars[to] = x + y;
                    break;
                case SSUB:
                    scalars[to] = x - y;
                    break;
                case SMUL:
                    scalars[to] = x * y;
                    break;
                default:
                    if (y == 0) {
                        return ZERO;
                    }
                    scalars[to] = op == Op.SDIV ? x / y : x % y;
                    break;
            }
            return 0;
        }

        /** Does an instruction that may lead elsewhere. */
        private int lead(Op op) {
            int s = (int) cell[1] & 7;
            switch (op) {
                case CALL:
                    if (open >= OPEN_CALLS) {
                        return DEPTH;
                    }
                    returns[open] = pc;
                    open++;
                    pc = (int) cell[1];
                    break;
                case RET:
                    if (open > 0) {
                        open--;
                        pc = returns[open];
                    } else {
                        ended = true;
                    }
                    break;
                case END:
                    ended = true;
                    break;
                case LOOP:
                    scalars[s]--;
                    if (scalars[s] != 0) {
                        pc = (int) cell[2];
                    }
                    break;
                case JMP:
                    pc = (int) cell[1];
                    break;
                default:
                    if (isSo(op, scalars[s], scalars[(int) cell[2] & 7])) {
                        pc = (int) cell[3];
                    }
                    break;
            }
            return 0;
        }

        private static boolean isSo(Op op, long x, long y) {
            switch (op) {
                case JEQ:
                    return x == y;
                case JNE:
                    return x != y;
                case JLT:
                    return x < y;
                default:
                    return x <= y;
            }
        }
    }
}
