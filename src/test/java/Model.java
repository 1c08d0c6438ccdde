import java.util.ArrayDeque;
import java.util.ArrayList;
import java.util.Arrays;
import java.util.HashMap;
import java.util.HashSet;
import java.util.List;
import java.util.Map;
import java.util.Set;

/**
 * The document once more, in the plainest way and with all of Java's library: whole states are copied for each step,
 * REAL numbers are Java's own. RandomRunsTest compares the two.
 */
final class Model {
    static final String[] WORDS = (
            "set add sub mul div rem min max and or xor shl shr ush neg abs sqrt eq ne lt le gt ge sel cast sat gather "
            + "scatter load store fill iota pack spread shuf rot rev zip sort scan half sum least most get put mand "
            + "mor mxor mnot mset mcount mfirst mov sadd ssub smul sdiv srem jmp jeq jne jlt jle loop call ret end")
            .split(" ");
    static final String[] OPERANDS = (
            "VK1 VVV? VVV? VVV? VVV? VVV? VVV? VVV? VVV? VVV? VVV? VVS? VVS? VVS? VV? VV? VV? MVV? MVV? MVV? MVV? "
            + "MVV? MVV? VMVV VV? VV? VAV? VAV? VAS? VAS? VS? VS? VMV VMV VVV? VVS? VV? VVV? VV VV? VV SV? SV? SV? "
            + "SV0 V0S MMM MMM MMM MM MU SM SM SN SSS SSS SSS SSS SSS L SSL SSL SSL SSL SL L - -").split(" ");

    /** A register or an array. */
    static final class Row {
        final int kind;
        final long[] bits;

        Row(int kind, long[] bits) {
            this.kind = kind;
            this.bits = bits;
        }

        Row copy() {
            return new Row(kind, bits.clone());
        }

        static boolean same(Row a, Row b) {
            return a == null ? b == null : b != null && a.kind == b.kind && Arrays.equals(a.bits, b.bits);
        }
    }

    static final class State {
        Row[] regs = new Row[8];
        Row[] arrays = new Row[8];
        int[] masks = new int[4];
        long[] scalars = new long[8];
        int pc;
        ArrayList<Integer> calls = new ArrayList<>();
        int steps;
        int lanesDone;
        boolean ended = true;

        State copy() {
            State s = new State();
            for (int i = 0; i < 8; i++) {
                s.regs[i] = regs[i] == null ? null : regs[i].copy();
                s.arrays[i] = arrays[i] == null ? null : arrays[i].copy();
            }
            s.masks = masks.clone();
            s.scalars = scalars.clone();
            s.pc = pc;
            s.calls = new ArrayList<>(calls);
            s.steps = steps;
            s.lanesDone = lanesDone;
            s.ended = ended;
            return s;
        }
    }

    static final class Ins {
        int op;
        long[] operand = {-1, -1, -1, -1};
        int mask = -1;
        String lead;
        int leadPlace;
        int leadAt;

        Ins copy() {
            Ins i = new Ins();
            i.op = op;
            i.operand = operand.clone();
            i.mask = mask;
            i.leadAt = leadAt;
            return i;
        }

        int leads() {
            return leadAt == 0 ? -1 : (int) operand[leadAt - 1];
        }
    }

    static final class Fault extends RuntimeException {
        private static final long serialVersionUID = 1;
        final int what;
        final int lane;

        Fault(int what, int lane) {
            super("fault", null, false, false);
            this.what = what;
            this.lane = lane;
        }
    }

    static final class TextFault extends RuntimeException {
        private static final long serialVersionUID = 1;
        final int place;

        TextFault(int place) {
            super("text", null, false, false);
            this.place = place;
        }
    }

    private static final class Step {
        State ahead;
        int place;
        int lanes;
    }

    State now = new State();
    final State[] kept = new State[4];
    StringBuilder tape = new StringBuilder();
    List<Ins> program = new ArrayList<>();
    List<Ins> made = new ArrayList<>();
    boolean slimmed;
    int labels;
    final Set<Integer> stops = new HashSet<>();
    final Set<Integer> watches = new HashSet<>();
    final ArrayDeque<Step> list = new ArrayDeque<>();
    int fault;
    int faultPlace = -1;
    int faultLane = -1;

    boolean feed(int... words) {
        if (tape.length() + 20 > 4000) {
            return false;
        }
        for (int w : words) {
            for (int k = 3; k >= 0; k--) {
                tape.append((char) (w >> 8 * k & 255));
            }
        }
        return true;
    }

    // ---- the text

    private record Token(char sort, String text, int place) {
    }

    private static List<Token> tokens(String text) {
        List<Token> all = new ArrayList<>();
        int i = 0;
        while (i < text.length()) {
            char c = text.charAt(i);
            int j = i + 1;
            if (c == ' ') {
                i++;
                continue;
            }
            if (c >= 'a' && c <= 'z') {
                while (j < text.length() && (text.charAt(j) + "").matches("[a-z0-9]")) {
                    j++;
                }
                all.add(new Token('W', text.substring(i, j), i));
            } else if (text.substring(i).matches("(?s)-?[0-9].*")) {
                while (j < text.length() && (text.charAt(j) + "").matches("[0-9]")) {
                    j++;
                }
                all.add(new Token('N', text.substring(i, j), i));
            } else if (c == ',' || c == ':' || c == '?') {
                all.add(new Token(c, "", i));
            } else if (c == '\n' || c == ';') {
                int end = text.indexOf('\n', i);
                j = end < 0 ? text.length() : end + 1;
                all.add(new Token('E', "", i));
            } else {
                all.add(new Token('B', "", i));
            }
            i = j;
        }
        all.add(new Token('E', "", text.length()));
        return all;
    }

    private List<Token> in;
    private int at;

    private Token take(char sort) {
        Token t = in.get(at);
        if (t.sort != sort) {
            throw new TextFault(t.place);
        }
        at++;
        return t;
    }

    int assemble(int n) {
        if (n < 0 || n > tape.length()) {
            return -5000;
        }
        String text = tape.substring(0, n);
        tape = new StringBuilder();
        List<Ins> read = new ArrayList<>();
        Map<String, Integer> names = new HashMap<>();
        try {
            in = tokens(text);
            at = 0;
            while (at < in.size()) {
                readLine(read, names);
            }
            for (Ins i : read) {
                if (i.lead != null) {
                    if (!names.containsKey(i.lead)) {
                        throw new TextFault(i.leadPlace);
                    }
                    i.operand[i.leadAt - 1] = names.get(i.lead);
                }
            }
        } catch (TextFault f) {
            return -1 - f.place;
        }
        made = read;
        program = copyOf(made);
        slimmed = false;
        labels = names.size();
        stops.clear();
        begin();
        return program.size();
    }

    private static List<Ins> copyOf(List<Ins> program) {
        List<Ins> copy = new ArrayList<>();
        program.forEach(i -> copy.add(i.copy()));
        return copy;
    }

    private void readLine(List<Ins> read, Map<String, Integer> names) {
        Token t = in.get(at);
        if (t.sort == 'W' && in.get(at + 1).sort == ':') {
            if (t.text.length() > 12 || names.containsKey(t.text) || names.size() == 40) {
                throw new TextFault(t.place);
            }
            names.put(t.text, read.size());
            at += 2;
            t = in.get(at);
        }
        if (t.sort == 'W') {
            int op = Arrays.asList(WORDS).indexOf(t.text);
            if (op < 0 || read.size() == 100) {
                throw new TextFault(t.place);
            }
            at++;
            readOperands(op, read);
        }
        take('E');
    }

    private void readOperands(int op, List<Ins> read) {
        Ins ins = new Ins();
        ins.op = op;
        String letters = OPERANDS[op].replace("?", "").replace("-", "");
        for (int k = 0; k < letters.length(); k++) {
            if (k > 0) {
                take(',');
            }
            char letter = letters.charAt(k);
            if ("01UN".indexOf(letter) >= 0) {
                Token t = take('N');
                String digits = t.text.replace("-", "");
                if (digits.length() > 18) {
                    throw new TextFault(t.place);
                }
                long v = Long.parseLong(t.text);
                boolean fits = letter == 'N' || letter == '0' && v >= 0 && v <= 31
                        || letter == '1' && v >= 1 && v <= 32 || letter == 'U' && v >= 0 && v < 1L << 32;
                if (!fits) {
                    throw new TextFault(t.place);
                }
                ins.operand[k] = v;
            } else if (letter == 'L') {
                Token t = take('W');
                if (t.text.length() > 12) {
                    throw new TextFault(t.place);
                }
                ins.lead = t.text;
                ins.leadPlace = t.place;
                ins.leadAt = k + 1;
            } else {
                ins.operand[k] = name(letter);
            }
        }
        if (OPERANDS[op].endsWith("?") && in.get(at).sort == '?') {
            at++;
            ins.mask = name('M');
        }
        read.add(ins);
    }

    private int name(char letter) {
        Token t = take('W');
        List<String> names = Arrays.asList((letter == 'K' ? "b h c i l f d"
                : letter == 'M' ? "m0 m1 m2 m3"
                : "v0 v1 v2 v3 v4 v5 v6 v7".replace('v', Character.toLowerCase(letter))).split(" "));
        if (!names.contains(t.text)) {
            throw new TextFault(t.place);
        }
        return names.indexOf(t.text);
    }

    // ---- flow and slim

    /** Of each instruction and register the ways: 0 NONE, 1 + 32 * kind + length - 1; null if not REACHED. */
    private List<List<Set<Integer>>> flow() {
        List<List<Set<Integer>>> may = new ArrayList<>();
        for (int i = 0; i < program.size(); i++) {
            may.add(null);
        }
        if (!program.isEmpty()) {
            List<Set<Integer>> first = new ArrayList<>();
            for (int r = 0; r < 8; r++) {
                first.add(new HashSet<>(Set.of(0)));
            }
            may.set(0, first);
        }
        boolean more = true;
        while (more) {
            more = false;
            for (int i = 0; i < program.size(); i++) {
                if (may.get(i) == null) {
                    continue;
                }
                List<Set<Integer>> behind = new ArrayList<>(may.get(i));
                Ins ins = program.get(i);
                if (ins.op == 0) {
                    behind.set((int) ins.operand[0], Set.of((int) (32 * ins.operand[1] + ins.operand[2])));
                }
                for (int to : ways(i)) {
                    if (to >= program.size()) {
                        continue;
                    }
                    if (may.get(to) == null) {
                        List<Set<Integer>> fresh = new ArrayList<>();
                        for (int r = 0; r < 8; r++) {
                            fresh.add(new HashSet<>());
                        }
                        may.set(to, fresh);
                        more = true;
                    }
                    for (int r = 0; r < 8; r++) {
                        more |= may.get(to).get(r).addAll(new HashSet<>(behind.get(r)));
                    }
                }
            }
        }
        return may;
    }

    private List<Integer> ways(int i) {
        Ins ins = program.get(i);
        List<Integer> ways = new ArrayList<>();
        String word = WORDS[ins.op];
        switch (word) {
            case "jmp", "call" -> ways.add(ins.leads());
            case "jeq", "jne", "jlt", "jle", "loop" -> {
                ways.add(ins.leads());
                ways.add(i + 1);
            }
            case "ret" -> {
                for (int k = 0; k < program.size(); k++) {
                    if (WORDS[program.get(k).op].equals("call")) {
                        ways.add(k + 1);
                    }
                }
            }
            case "end" -> {
            }
            default -> ways.add(i + 1);
        }
        return ways;
    }

    /** Tries every choice of kinds and lengths for the registers of the instruction. */
    private boolean isGood(int i, List<Set<Integer>> may) {
        Ins ins = program.get(i);
        List<Integer> named = new ArrayList<>();
        String letters = OPERANDS[ins.op];
        for (int k = 0; k < letters.length(); k++) {
            if (letters.charAt(k) == 'V' && !named.contains((int) ins.operand[k])) {
                named.add((int) ins.operand[k]);
            }
        }
        return someFits(ins, named, 0, may, new Row[8]);
    }

    private boolean someFits(Ins ins, List<Integer> named, int k, List<Set<Integer>> may, Row[] regs) {
        if (k == named.size()) {
            try {
                judge(ins, regs, null, false);
                String word = WORDS[ins.op];
                if (word.equals("get")) {
                    return ins.operand[2] < regs[(int) ins.operand[1]].bits.length;
                }
                return !word.equals("put") || ins.operand[1] < regs[(int) ins.operand[0]].bits.length;
            } catch (Fault f) {
                return false;
            }
        }
        for (int way : may.get(named.get(k))) {
            regs[named.get(k)] = way == 0 ? null : new Row((way - 1) / 32, new long[(way - 1) % 32 + 1]);
            if (someFits(ins, named, k + 1, may, regs)) {
                return true;
            }
        }
        return false;
    }

    int check() {
        List<List<Set<Integer>>> may = flow();
        for (int i = 0; i < program.size(); i++) {
            if (may.get(i) != null && !isGood(i, may.get(i))) {
                return i + 1;
            }
        }
        return 0;
    }

    int flow(int i, int what) {
        if (i < 0 || i >= program.size() || what < 0 || what > 9) {
            return -1;
        }
        List<Set<Integer>> may = flow().get(i);
        if (may == null) {
            return 0;
        }
        return what == 0 ? 1 : what == 1 ? (isGood(i, may) ? 1 : 0) : may.get(what - 2).size();
    }

    int slim() {
        int had = program.size();
        while (slimOnce()) {
            continue;
        }
        int gone = had - program.size();
        slimmed |= gone > 0;
        stops.clear();
        begin();
        return gone;
    }

    private boolean slimOnce() {
        for (int i = 0; i < program.size(); i++) {
            Ins a = program.get(i);
            String word = WORDS[a.op];
            if (word.equals("jmp") && a.operand[0] == i + 1) {
                remove(i);
                return true;
            }
            int next = i + 1;
            if (next >= program.size() || program.stream().anyMatch(x -> x.leads() == next)) {
                continue;
            }
            Ins b = program.get(next);
            if (a.op != b.op || a.operand[0] != b.operand[0]) {
                continue;
            }
            if (List.of("set", "mov", "mset").contains(word)) {
                remove(i);
                return true;
            }
            if (word.equals("mnot") && a.operand[0] == a.operand[1] && b.operand[0] == b.operand[1]) {
                remove(i);
                remove(i);
                return true;
            }
        }
        return false;
    }

    private void remove(int i) {
        program.remove(i);
        for (Ins x : program) {
            if (x.leads() > i) {
                x.operand[x.leadAt - 1]--;
            }
        }
    }

    boolean restore() {
        if (!slimmed) {
            return false;
        }
        slimmed = false;
        program = copyOf(made);
        stops.clear();
        begin();
        return true;
    }

    // ---- running

    void begin() {
        now.regs = new Row[8];
        now.masks = new int[4];
        now.pc = 0;
        now.calls.clear();
        now.steps = 0;
        now.lanesDone = 0;
        now.ended = program.isEmpty();
        noFault();
        list.clear();
    }

    private void noFault() {
        fault = 0;
        faultPlace = -1;
        faultLane = -1;
    }

    int run(int steps) {
        if (steps < 0 || steps > 2000) {
            throw new IllegalArgumentException();
        }
        int done = 0;
        while (true) {
            if (now.ended) {
                return 0;
            }
            if (done == steps) {
                return -1;
            }
            if (done > 0 && stops.contains(now.pc)) {
                return -2;
            }
            State ahead = now.copy();
            int place = now.pc;
            try {
                noFault();
                step();
            } catch (Fault f) {
                fault = f.what;
                faultPlace = place;
                faultLane = f.lane;
                now.pc = place;
                return fault;
            }
            done++;
            now.steps++;
            now.ended |= now.pc == program.size();
            Step s = new Step();
            s.ahead = ahead;
            s.place = place;
            s.lanes = now.lanesDone - ahead.lanesDone;
            list.addFirst(s);
            if (list.size() > 64) {
                list.removeLast();
            }
            if (watches.stream().anyMatch(w -> watched(ahead, w) != watched(now, w))) {
                return now.ended ? 0 : -3;
            }
        }
    }

    private static long watched(State s, int w) {
        Row row = s.arrays[w / 64];
        return row == null || w % 64 >= row.bits.length ? 0 : row.bits[w % 64];
    }

    int back() {
        if (list.isEmpty()) {
            return -1;
        }
        Step s = list.removeFirst();
        now = s.ahead;
        noFault();
        return s.place;
    }

    private static boolean whole(int kind) {
        return kind < 5;
    }

    private static void need(boolean so, int what) {
        if (!so) {
            throw new Fault(what, -1);
        }
    }

    /** The FAULTS of kinds and lengths. */
    private static void judge(Ins ins, Row[] regs, Row[] arrays, boolean withArrays) {
        String letters = OPERANDS[ins.op];
        List<Row> rows = new ArrayList<>();
        Row array = null;
        for (int k = 0; k < letters.length(); k++) {
            if (letters.charAt(k) == 'V') {
                rows.add(regs[(int) ins.operand[k]]);
            }
            if (letters.charAt(k) == 'A' && withArrays) {
                array = arrays[(int) ins.operand[k]];
            }
        }
        String word = WORDS[ins.op];
        if (word.equals("set") || rows.isEmpty()) {
            return;
        }
        for (Row r : rows) {
            need(r != null, 1);
        }
        int kind = rows.get(0).kind;
        switch (word) {
            case "cast" -> {
            }
            case "sat" -> need(whole(kind), 1);
            case "gather", "scatter" -> need(rows.get(1).kind == 3, 1);
            case "shuf" -> need(rows.get(1).kind == kind && rows.get(2).kind == 3, 1);
            default -> {
                for (Row r : rows) {
                    need(r.kind == kind, 1);
                }
                if (List.of("and", "or", "xor", "shl", "shr", "ush", "sum", "least", "most").contains(word)) {
                    need(whole(kind), 1);
                }
                if (word.equals("sqrt")) {
                    need(!whole(kind), 1);
                }
            }
        }
        for (Row r : rows) {
            need(r.bits.length == rows.get(0).bits.length, 2);
        }
        if (withArrays && letters.contains("A")) {
            need(array != null, 3);
            need(array.kind == kind, 1);
        }
    }

    private void step() {
        Ins ins = program.get(now.pc);
        judge(ins, now.regs, now.arrays, true);
        now.pc++;
        if (ins.op < 46) {
            new LaneStep(ins).run();
        } else {
            plainStep(ins);
        }
    }

    private void plainStep(Ins ins) {
        int a = (int) ins.operand[0];
        int b = (int) ins.operand[1] & 7;
        int c = (int) ins.operand[2] & 7;
        long[] s = now.scalars;
        int[] m = now.masks;
        switch (WORDS[ins.op]) {
            case "mand" -> m[a] = m[b] & m[c];
            case "mor" -> m[a] = m[b] | m[c];
            case "mxor" -> m[a] = m[b] ^ m[c];
            case "mnot" -> m[a] = ~m[b];
            case "mset" -> m[a] = (int) ins.operand[1];
            case "mcount" -> s[a] = Integer.toBinaryString(m[b]).replace("0", "").length();
            case "mfirst" -> s[a] = new StringBuilder(Integer.toBinaryString(m[b])).reverse().indexOf("1");
            case "mov" -> s[a] = ins.operand[1];
            case "sadd" -> s[a] = s[b] + s[c];
            case "ssub" -> s[a] = s[b] - s[c];
            case "smul" -> s[a] = s[b] * s[c];
            case "sdiv" -> {
                need(s[c] != 0, 5);
                s[a] = s[b] / s[c];
            }
            case "srem" -> {
                need(s[c] != 0, 5);
                s[a] = s[b] % s[c];
            }
            case "jmp" -> now.pc = a;
            case "jeq" -> jump(s[a] == s[b], ins);
            case "jne" -> jump(s[a] != s[b], ins);
            case "jlt" -> jump(s[a] < s[b], ins);
            case "jle" -> jump(s[a] <= s[b], ins);
            case "loop" -> jump(--s[a] != 0, ins);
            case "call" -> {
                need(now.calls.size() < 16, 7);
                now.calls.add(now.pc);
                now.pc = a;
            }
            case "ret" -> {
                if (now.calls.isEmpty()) {
                    now.ended = true;
                } else {
                    now.pc = now.calls.remove(now.calls.size() - 1);
                }
            }
            case "end" -> now.ended = true;
            default -> throw new IllegalStateException(WORDS[ins.op]);
        }
    }

    private void jump(boolean so, Ins ins) {
        if (so) {
            now.pc = ins.leads();
        }
    }

    // ---- numbers

    static final long[] LEAST = {-128, -32768, 0, Integer.MIN_VALUE, Long.MIN_VALUE};
    static final long[] MOST = {127, 32767, 65535, Integer.MAX_VALUE, Long.MAX_VALUE};
    static final int[] WIDTH = {8, 16, 16, 32, 64};

    static long low(int kind, long v) {
        return kind == 0 ? (byte) v : kind == 1 ? (short) v : kind == 2 ? v & 65535 : kind == 3 ? (int) v : v;
    }

    static double real(int kind, long bits) {
        return kind == 5 ? Float.intBitsToFloat((int) bits) : Double.longBitsToDouble(bits);
    }

    static long bits(float f, int lane) {
        if (Float.isInfinite(f)) {
            throw new Fault(6, lane);
        }
        return Float.floatToRawIntBits(f);
    }

    static long bits(double d, int lane) {
        if (Double.isInfinite(d)) {
            throw new Fault(6, lane);
        }
        return Double.doubleToRawLongBits(d);
    }

    static long put(int kind, long v) {
        return kind == 5 ? bits((float) v, -1) : kind == 6 ? bits((double) v, -1) : low(kind, v);
    }

    /** Below 0, 0 or above as x is to y IN ORDER, or by value. */
    static int compare(int kind, long x, long y, boolean inOrder) {
        if (whole(kind)) {
            return Long.compare(x, y);
        }
        double a = real(kind, x);
        double b = real(kind, y);
        return !inOrder && a == b ? 0 : Double.compare(a, b);
    }

    static long two(String word, int kind, long x, long y, int lane) {
        if (word.equals("min")) {
            return compare(kind, x, y, true) < 0 ? x : y;
        }
        if (word.equals("max")) {
            return compare(kind, x, y, true) > 0 ? x : y;
        }
        boolean divides = word.equals("div") || word.equals("rem");
        if (kind == 5) {
            float a = Float.intBitsToFloat((int) x);
            float b = Float.intBitsToFloat((int) y);
            if (divides && b == 0) {
                throw new Fault(5, lane);
            }
            return bits(switch (word) {
                case "add" -> a + b;
                case "sub" -> a - b;
                case "mul" -> a * b;
                case "div" -> a / b;
                default -> a % b;
            }, lane);
        }
        if (kind == 6) {
            double a = real(6, x);
            double b = real(6, y);
            if (divides && b == 0) {
                throw new Fault(5, lane);
            }
            return bits(switch (word) {
                case "add" -> a + b;
                case "sub" -> a - b;
                case "mul" -> a * b;
                case "div" -> a / b;
                default -> a % b;
            }, lane);
        }
        if (divides && y == 0) {
            throw new Fault(5, lane);
        }
        return low(kind, switch (word) {
            case "add" -> x + y;
            case "sub" -> x - y;
            case "mul" -> x * y;
            case "div" -> x / y;
            case "rem" -> x % y;
            case "and" -> x & y;
            case "or" -> x | y;
            default -> x ^ y;
        });
    }

    static long one(String word, int kind, long x, int lane) {
        if (whole(kind)) {
            return word.equals("neg") || x < 0 ? low(kind, -x) : x;
        }
        if (kind == 5) {
            float f = Float.intBitsToFloat((int) x);
            if (word.equals("sqrt") && f < 0) {
                throw new Fault(6, lane);
            }
            return bits(word.equals("neg") ? -f : word.equals("abs") ? Math.abs(f) : (float) Math.sqrt(f), lane);
        }
        double d = real(kind, x);
        if (word.equals("sqrt") && d < 0) {
            throw new Fault(6, lane);
        }
        return bits(word.equals("neg") ? -d : word.equals("abs") ? Math.abs(d) : Math.sqrt(d), lane);
    }

    static long cast(int from, int to, long x, int lane) {
        if (whole(from)) {
            return put(to, x);
        }
        double d = real(from, x);
        if (to == 5) {
            return bits((float) d, lane);
        }
        if (to == 6) {
            return bits(d, lane);
        }
        return to == 4 ? (long) d : low(to, (int) d);
    }

    static long shift(String word, int kind, long x, long s) {
        int n = (int) Math.floorMod(s, (long) WIDTH[kind]);
        long unsigned = WIDTH[kind] == 64 ? x : Math.floorMod(x, 1L << WIDTH[kind]);
        return low(kind, word.equals("shl") ? x << n : word.equals("shr") ? x >> n : unsigned >>> n);
    }

    // ---- instructions of lanes

    private final class LaneStep {
        final Ins ins;
        final String word;
        final String letters;
        final List<Row> rows = new ArrayList<>();
        final List<long[]> were = new ArrayList<>();
        Row array;
        int s = -1;
        int m = -1;
        boolean[] on;

        LaneStep(Ins ins) {
            this.ins = ins;
            word = WORDS[ins.op];
            letters = OPERANDS[ins.op];
            for (int k = 0; k < 4 && k < letters.length(); k++) {
                int n = (int) ins.operand[k];
                switch (letters.charAt(k)) {
                    case 'V' -> {
                        rows.add(now.regs[n]);
                        were.add(now.regs[n] == null ? null : now.regs[n].bits.clone());
                    }
                    case 'A' -> array = now.arrays[n];
                    case 'S' -> s = n;
                    case 'M' -> m = n;
                    default -> {
                    }
                }
            }
        }

        void run() {
            if (word.equals("set")) {
                int length = (int) ins.operand[2];
                now.regs[(int) ins.operand[0]] = new Row((int) ins.operand[1], new long[length]);
                now.lanesDone += length;
                return;
            }
            int length = rows.get(0).bits.length;
            on = new boolean[length];
            for (int i = 0; i < length; i++) {
                on[i] = ins.mask < 0 || (now.masks[ins.mask] >> i & 1) == 1;
            }
            switch (letters.charAt(0)) {
                case 'M' -> compareAll(length);
                case 'S' -> toScalar(length);
                default -> toLanes(length);
            }
        }

        void compareAll(int length) {
            int bits = 0;
            for (int i = 0; i < length; i++) {
                int c = compare(rows.get(0).kind, were.get(0)[i], were.get(1)[i], false);
                boolean so = switch (word) {
                    case "eq" -> c == 0;
                    case "ne" -> c != 0;
                    case "lt" -> c < 0;
                    case "le" -> c <= 0;
                    case "gt" -> c > 0;
                    default -> c >= 0;
                };
                boolean bit = on[i] ? so : (now.masks[m] >> i & 1) == 1;
                bits |= bit ? 1 << i : 0;
            }
            now.masks[m] = bits;
        }

        void toScalar(int length) {
            long[] x = were.get(0);
            if (word.equals("get")) {
                int n = (int) ins.operand[2];
                if (n >= length) {
                    throw new Fault(4, n);
                }
                now.scalars[s] = x[n];
                return;
            }
            List<Long> chosen = new ArrayList<>();
            for (int i = 0; i < length; i++) {
                if (on[i]) {
                    chosen.add(x[i]);
                }
            }
            if (word.equals("sum")) {
                now.scalars[s] = chosen.stream().mapToLong(v -> v).sum();
            } else if (!chosen.isEmpty()) {
                now.scalars[s] = chosen.stream().reduce(word.equals("least") ? Math::min : Math::max).get();
            }
        }

        boolean bit(int i) {
            return (now.masks[m] >> i & 1) == 1;
        }

        void toLanes(int length) {
            Row v = rows.get(0);
            int kind = v.kind;
            long[] x = were.size() > 1 ? were.get(1) : were.get(0);
            long[] y = were.size() > 2 ? were.get(2) : null;
            int done = 0;
            switch (word) {
                case "sel" -> {
                    for (int i = 0; i < length; i++, done++) {
                        v.bits[i] = bit(i) ? x[i] : y[i];
                    }
                }
                case "pack", "spread" -> {
                    for (int i = 0; i < length; i++) {
                        if (bit(i)) {
                            int k = done++;
                            v.bits[word.equals("pack") ? k : i] = x[word.equals("pack") ? i : k];
                        }
                    }
                }
                case "sort" -> {
                    List<Long> all = new ArrayList<>();
                    for (long l : x) {
                        all.add(l);
                    }
                    all.sort((a, b) -> compare(kind, a, b, true));
                    for (int i = 0; i < length; i++, done++) {
                        v.bits[i] = all.get(i);
                    }
                }
                case "half" -> {
                    v.bits[0] = halved(kind, x);
                    done = 1;
                }
                case "put" -> {
                    int n = (int) ins.operand[1];
                    if (n >= length) {
                        throw new Fault(4, n);
                    }
                    v.bits[n] = Model.put(kind, now.scalars[s]);
                    done = 1;
                }
                default -> done = laneByLane(v, x, y);
            }
            now.lanesDone += done;
        }

        long halved(int kind, long[] x) {
            List<Long> left = new ArrayList<>();
            for (long l : x) {
                left.add(l);
            }
            while (left.size() > 1) {
                int n = left.size();
                int h = (n + 1) / 2;
                for (int i = 0; i < n - h; i++) {
                    left.set(i, two("add", kind, left.get(i), left.get(i + h), i));
                }
                left = new ArrayList<>(left.subList(0, h));
            }
            return left.get(0);
        }

        int laneByLane(Row v, long[] x, long[] y) {
            int done = 0;
            Long sum = null;
            for (int i = 0; i < v.bits.length; i++) {
                if (!on[i]) {
                    continue;
                }
                switch (word) {
                    case "scatter", "store" -> array.bits[place(i, x)] = v.bits[i];
                    case "gather", "load" -> v.bits[i] = array.bits[place(i, x)];
                    case "scan" -> {
                        sum = sum == null ? (Long) x[i] : (Long) two("add", v.kind, sum, x[i], i);
                        v.bits[i] = sum;
                    }
                    default -> v.bits[i] = lane(v, x, y, i);
                }
                done++;
            }
            return done;
        }

        int place(int i, long[] w) {
            long first = now.scalars[Math.max(s, 0)];
            java.math.BigInteger place = word.equals("gather") || word.equals("scatter")
                    ? java.math.BigInteger.valueOf(w[i])
                    : java.math.BigInteger.valueOf(first).add(java.math.BigInteger.valueOf(i));
            if (place.signum() < 0 || place.compareTo(java.math.BigInteger.valueOf(array.bits.length)) >= 0) {
                throw new Fault(4, i);
            }
            return place.intValue();
        }

        long lane(Row v, long[] x, long[] y, int i) {
            int length = v.bits.length;
            long scalar = now.scalars[Math.max(s, 0)];
            switch (word) {
                case "shl", "shr", "ush":
                    return shift(word, v.kind, x[i], scalar);
                case "neg", "abs", "sqrt":
                    return one(word, v.kind, x[i], i);
                case "cast":
                    return Model.cast(rows.get(1).kind, v.kind, x[i], i);
                case "sat":
                    long cut = whole(rows.get(1).kind) ? x[i] : (long) real(rows.get(1).kind, x[i]);
                    return Math.max(LEAST[v.kind], Math.min(MOST[v.kind], cut));
                case "fill":
                    return Model.put(v.kind, scalar);
                case "iota":
                    return Model.put(v.kind, scalar + i);
                case "shuf":
                    if (y[i] < 0 || y[i] >= length) {
                        throw new Fault(4, i);
                    }
                    return x[(int) y[i]];
                case "rot":
                    return x[java.math.BigInteger.valueOf(scalar).add(java.math.BigInteger.valueOf(i))
                            .mod(java.math.BigInteger.valueOf(length)).intValue()];
                case "rev":
                    return x[length - 1 - i];
                case "zip":
                    return i % 2 == 0 ? x[i / 2] : y[i / 2];
                default:
                    return two(word, v.kind, x[i], y[i], i);
            }
        }
    }

    // ---- memory

    int elements() {
        int n = 0;
        for (Row a : now.arrays) {
            n += a == null ? 0 : a.bits.length;
        }
        return n;
    }

    int memory(int kind, int n) {
        if (kind < 0 || kind > 6 || n < 0 || n > 64) {
            return -1;
        }
        int m = Arrays.asList(now.arrays).indexOf(null);
        if (m < 0 || elements() + n > 400) {
            return -2;
        }
        now.arrays[m] = new Row(kind, new long[n]);
        list.clear();
        return m;
    }

    private Row arrayOf(int m) {
        return m < 0 || m > 7 ? null : now.arrays[m];
    }

    boolean free(int m) {
        if (arrayOf(m) == null) {
            return false;
        }
        now.arrays[m] = null;
        list.clear();
        return true;
    }

    int resize(int m, int n) {
        Row a = arrayOf(m);
        if (a == null || n < 0 || n > 64) {
            return -1;
        }
        if (elements() - a.bits.length + n > 400) {
            return -2;
        }
        now.arrays[m] = new Row(a.kind, Arrays.copyOf(a.bits, n));
        list.clear();
        return a.bits.length;
    }

    boolean poke(int m, int i, long v) {
        Row a = arrayOf(m);
        if (a == null || i < 0 || i >= a.bits.length) {
            return false;
        }
        a.bits[i] = put(a.kind, v);
        list.clear();
        return true;
    }

    boolean scalar(int s, long v) {
        if (s < 0 || s > 7) {
            return false;
        }
        now.scalars[s] = v;
        list.clear();
        return true;
    }

    boolean stop(int i, boolean on) {
        return i >= 0 && i < program.size() && (on ? stops.add(i) : stops.remove(i));
    }

    boolean watch(int m, int i, boolean on) {
        return m >= 0 && m < 8 && i >= 0 && i < 64 && (on ? watches.add(64 * m + i) : watches.remove(64 * m + i));
    }

    int trace(int k, int what) {
        if (k < 0 || k >= list.size() || what < 0 || what > 1) {
            return -1;
        }
        Step s = new ArrayList<>(list).get(k);
        return what == 0 ? s.place : s.lanes;
    }

    boolean keep(int k) {
        if (k < 0 || k > 3) {
            return false;
        }
        kept[k] = now.copy();
        return true;
    }

    int differs(int a, int b) {
        if (a < -1 || b < -1 || a > 3 || b > 3) {
            return -1;
        }
        State s = a < 0 ? now : kept[a];
        State t = b < 0 ? now : kept[b];
        if (s == null || t == null) {
            return -1;
        }
        for (int i = 0; i < 8; i++) {
            if (!Row.same(s.regs[i], t.regs[i])) {
                return 1;
            }
        }
        if (!Arrays.equals(s.masks, t.masks)) {
            return 2;
        }
        if (!Arrays.equals(s.scalars, t.scalars)) {
            return 3;
        }
        for (int i = 0; i < 8; i++) {
            if (!Row.same(s.arrays[i], t.arrays[i])) {
                return 4;
            }
        }
        return 0;
    }

    int count(int what) {
        int[] all = {program.size(), now.steps, now.lanesDone, elements(), list.size(), now.pc, now.calls.size(),
            now.ended ? 1 : 0, stops.size(), watches.size(), labels, tape.length()};
        return what < 0 || what > 11 ? -1 : all[what];
    }
}
