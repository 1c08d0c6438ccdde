import java.nio.charset.StandardCharsets;
import java.util.Random;

/** Random programs and calls, answered by the class and by the Model: promises 2 to 29. */
public final class RandomRunsTest {
    private static final long[] ODD = {0, 1, -1, 2, 3, 7, 31, 32, 63, 64, 65, 127, 128, 255, 256, -128, -129, 32767,
        65535, -32768, Integer.MAX_VALUE, Integer.MIN_VALUE, 16777217, 1L << 53, (1L << 53) + 1, (1L << 62) - 1,
        Long.MAX_VALUE, Long.MIN_VALUE, Long.MAX_VALUE - 30, 999999999999999999L};

    /** What an object answers later is free. */
    private static final int LAST_CALL = 512;
    /** From here on a run only looks at what there is. */
    private static final int LAST_CHANGE = 420;

    private final Random random;
    private final LaneMachine machine = new LaneMachine();
    private final Model model = new Model();
    private final StringBuilder told = new StringBuilder();
    /** Whether operands are chosen so that kinds mostly fit: v0 .. v3 alike, v4 and v5 INT, s6 and s7 small. */
    private boolean fitted;
    private int calls;

    /** The machine's last call was made. */
    private static final class Spent extends RuntimeException {
        private static final long serialVersionUID = 1;

        Spent() {
            super("spent", null, false, false);
        }
    }

    private RandomRunsTest(long seed) {
        random = new Random(seed);
    }

    public static void main(String[] args) {
        int runs = args.length > 0 ? Integer.parseInt(args[0]) : 12000;
        long first = args.length > 1 ? Long.parseLong(args[1]) : 1;
        for (long seed = first; seed < first + runs; seed++) {
            new RandomRunsTest(seed).run(seed);
        }
        Check.finish();
    }

    private int pick(int n) {
        return random.nextInt(n);
    }

    private long odd() {
        return pick(3) == 0 ? random.nextLong() >> pick(64) : pick(2) == 0 ? pick(40) - 4 : ODD[pick(ODD.length)];
    }

    /** The tests go on only as long as the two agree; each comparison is one call of the machine. */
    private void same(String call, long got, long want) {
        told.append(call).append(" = ").append(want).append('\n');
        if (got != want) {
            System.out.println(told);
        }
        Check.due(call, got, want);
        if (got != want) {
            Check.finish();
        }
        spend();
    }

    private void spend() {
        calls++;
        if (calls == LAST_CALL) {
            throw new Spent();
        }
    }

    private static long of(boolean b) {
        return b ? 1 : 0;
    }

    private void run(long seed) {
        told.append("seed ").append(seed).append('\n');
        try {
            while (calls < LAST_CHANGE) {
                int kind = pick(7);
                fitted = pick(3) > 0;
                if (fitted) {
                    arrays(kind);
                }
                String text = fitted ? fittedProgram(kind) : program();
                assemble(pick(12) == 0 ? spoiled(text) : text);
                for (int k = pick(80); k > 0 && calls < LAST_CHANGE; k--) {
                    call();
                }
            }
            all();
        } catch (Spent e) {
            return;
        }
    }

    private void assemble(String text) {
        byte[] bytes = text.getBytes(StandardCharsets.ISO_8859_1);
        for (int from = 0; from < bytes.length; from += 20) {
            int[] w = new int[5];
            for (int i = 0; i < 20; i++) {
                int b = from + i < bytes.length ? bytes[from + i] & 255 : ' ';
                w[i / 4] = w[i / 4] << 8 | b;
            }
            same("feed", of(machine.feed(w[0], w[1], w[2], w[3], w[4])), of(model.feed(w)));
        }
        int n = pick(30) == 0 ? pick(5000) - 10 : Math.min(text.length(), model.tape.length());
        told.append(text).append('\n');
        same("assemble(" + n + ")", machine.assemble(n), model.assemble(n));
    }

    // ---- texts

    private String program() {
        StringBuilder text = new StringBuilder();
        int lines = 1 + pick(pick(4) == 0 ? 90 : 30);
        int sets = pick(6);
        String kind = "bhcilfd".charAt(pick(7)) + "";
        int length = 1 + pick(pick(2) == 0 ? 32 : 6);
        for (int k = 0; k < sets; k++) {
            text.append("set v").append(k).append(',').append(kind).append(',').append(length).append('\n');
            text.append(fresh(k));
        }
        if (pick(2) == 0) {
            text.append("set v6,i,").append(length).append("\niota v6,s").append(pick(8)).append('\n');
        }
        for (int k = 0; k < lines; k++) {
            if (pick(4) == 0 || k < 3) {
                text.append(pick(60) == 0 ? "l" : "l" + k).append(pick(6) == 0 ? " :" : ":");
            }
            text.append(line(lines));
            text.append(pick(12) == 0 ? " ; some, words: ?" : "").append('\n');
        }
        return text.toString();
    }

    /** Arrays 0 and 1 of that kind, with some elements. */
    private void arrays(int kind) {
        for (int m = 1; m >= 0; m--) {
            same("free", of(machine.free(m)), of(model.free(m)));
        }
        int n = pick(65);
        for (int m = 0; m < 2; m++) {
            same("memory " + kind + " " + n, machine.memory(kind, n), model.memory(kind, n));
        }
        for (int k = 0; k < 6; k++) {
            int i = pick(64);
            long v = odd();
            same("poke " + i + " " + v, of(machine.poke(k & 1, i, v)), of(model.poke(k & 1, i, v)));
        }
        for (int s = 0; s < 6; s++) {
            long v = odd();
            same("scalar " + s + " " + v, of(machine.scalar(s, v)), of(model.scalar(s, v)));
        }
    }

    private String fittedProgram(int kind) {
        StringBuilder text = new StringBuilder();
        int length = 1 + pick(pick(2) == 0 ? 32 : 6);
        text.append("mov s6,").append(pick(12) - 3).append("\nmov s7,").append(pick(4)).append('\n');
        for (int k = 0; k < 7; k++) {
            char letter = "bhcilfd".charAt(k < 4 ? kind : k < 6 ? 3 : pick(7));
            text.append("set v").append(k).append(',').append(letter).append(',').append(length).append('\n');
            text.append(pick(2) == 0 ? "iota v" : "fill v").append(k).append(",s");
            text.append(k == 4 || k == 5 ? 7 : pick(6)).append('\n');
        }
        text.append("iota v4,s7\nrev v5,v4\nmset m1,").append(random.nextInt() & 0xffffffffL).append('\n');
        text.append("ne m2,v1,v2\n");
        if (kind > 4 && pick(2) == 0) {
            text.append(huge(kind));
        }
        int lines = 3 + pick(30);
        for (int k = 0; k < lines; k++) {
            text.append('l').append(k).append(':').append(line(lines)).append('\n');
        }
        return text.toString();
    }

    /** v3 becomes 2 to the 127 or 1023, some lanes of it negative; other registers get some of its lanes. */
    private String huge(int kind) {
        StringBuilder text = new StringBuilder("mov s5,576460752303423488\nfill v3,s5\nmov s5,512\nfill v2,s5\n");
        for (int k = kind == 5 ? 1 : 4; k > 0; k--) {
            text.append("mul v3,v3,v3\n");
        }
        text.append("mul v3,v3,v2\n");
        for (int k = kind == 5 ? 0 : 7; k > 0; k--) {
            text.append(k == 1 ? "mov s5,128\nfill v2,s5\n" : "").append("mul v3,v3,v2\n");
        }
        text.append("neg v3,v3 ?m1\nsel v0,m1,v3,v0\ndiv v2,v2,v3\nsel v1,m2,v2,v3\n");
        return text.toString();
    }

    private String fresh(int k) {
        return pick(3) == 0 ? "" : (pick(2) == 0 ? "iota v" : "fill v") + k + ",s" + pick(8) + "\n";
    }

    private String line(int lines) {
        if (pick(15) == 0) {
            String[] twins = {"mnot m1,m1\nmnot m1,m1", "mov s1,5\nmov s1,6", "mset m2,1\nmset m2,9",
                "set v1,f,3\nset v1,f,4", "mnot m1,m2\nmnot m1,m1"};
            return twins[pick(twins.length)];
        }
        int op = pick(10) == 0 ? 53 + pick(15) : pick(4) == 0 ? 46 + pick(22) : pick(46);
        boolean rare = op == 0 && fitted || op == 67 || fitted && (op == 57 || op == 58 || op == 44 || op == 45);
        if (rare && pick(4) != 0) {
            op = 1 + pick(7);
        }
        StringBuilder text = new StringBuilder(Model.WORDS[op]);
        String letters = Model.OPERANDS[op].replace("-", "");
        for (int k = 0; k < letters.length(); k++) {
            char letter = letters.charAt(k);
            if (letter == '?') {
                text.append(pick(2) == 0 ? "" : (pick(2) == 0 ? "?m" : " ? m") + pick(4));
            } else {
                text.append(k == 0 ? " " : pick(8) == 0 ? " , " : ",");
                text.append(fitted && letter != 'L' ? fittedOperand(op, letter, k) : operand(letter, lines));
            }
        }
        return text.toString();
    }

    private String fittedOperand(int op, char letter, int k) {
        String word = Model.WORDS[op];
        if (letter == 'S') {
            return "s" + (op < 46 && pick(3) > 0 ? 6 + pick(2) : pick(8));
        }
        if (letter != 'V' || pick(40) == 0) {
            return operand(letter, 3);
        }
        boolean places = k == 2 && (word.equals("gather") || word.equals("scatter") || word.equals("shuf"));
        if (places || op > 16 && pick(12) == 0) {
            return "v" + (4 + pick(2));
        }
        return "v" + (word.equals("cast") || word.equals("sat") ? pick(7) : pick(pick(2) == 0 ? 4 : 2));
    }

    private String operand(char letter, int lines) {
        switch (letter) {
            case 'V':
                return "v" + (pick(3) == 0 ? pick(8) : pick(3));
            case 'M':
                return "m" + pick(4);
            case 'S':
                return "s" + pick(8);
            case 'A':
                return "a" + pick(pick(3) == 0 ? 8 : 2);
            case 'K':
                return "bhcilfd".charAt(pick(7)) + "";
            case '1':
                return "" + (1 + pick(32));
            case '0':
                return "" + pick(pick(2) == 0 ? 32 : 4);
            case 'U':
                return "" + (random.nextInt() & 0xffffffffL);
            case 'N':
                long n = odd();
                return "" + (Math.abs(n) > 0 && Math.abs(n) <= 999999999999999999L ? n : pick(9) - 2);
            default:
                return pick(4) == 0 && fitted ? "l" + pick(lines) : "l" + pick(3);
        }
    }

    private String spoiled(String text) {
        StringBuilder spoiled = new StringBuilder(text);
        for (int k = 1 + pick(3); k > 0 && spoiled.length() > 0; k--) {
            int at = pick(spoiled.length());
            switch (pick(5)) {
                case 0:
                    spoiled.deleteCharAt(at);
                    break;
                case 1:
                    spoiled.insert(at, "-:,?;\n v19a\u00e9\t\0".charAt(pick(14)));
                    break;
                case 2:
                    spoiled.setCharAt(at, (char) pick(256));
                    break;
                case 3:
                    spoiled.insert(at, pick(2) == 0 ? "000000000000000001" : "abcdefghijklm");
                    break;
                default:
                    spoiled.setLength(at);
                    break;
            }
        }
        return spoiled.toString();
    }

    // ---- calls

    private void call() {
        int a = pick(50) == 0 ? (int) ODD[pick(ODD.length)] : pick(12) - 2;
        int b = pick(50) == 0 ? (int) ODD[pick(ODD.length)] : pick(70) - 3;
        long v = odd();
        switch (pick(26)) {
            case 0, 1, 2, 3:
                run(pick(5) == 0 ? pick(60) : pick(6));
                break;
            case 4:
                run(pick(20) == 0 ? pick(2) * 3001 - 1000 : pick(300));
                break;
            case 5, 6, 7, 8:
                for (int k = pick(pick(6) == 0 ? 80 : 4); k >= 0; k--) {
                    same("back", machine.back(), model.back());
                }
                break;
            case 9, 10:
                same("memory " + (a & 7) + " " + b, machine.memory(a & 7, b), model.memory(a & 7, b));
                break;
            case 11:
                same("free " + a, of(machine.free(a)), of(model.free(a)));
                break;
            case 12:
                same("resize " + a + " " + b, machine.resize(a, b), model.resize(a, b));
                break;
            case 13, 14:
                same("poke " + a + " " + b + " " + v, of(machine.poke(a, b, v)), of(model.poke(a, b, v)));
                break;
            case 15:
                same("scalar " + a + " " + v, of(machine.scalar(a, v)), of(model.scalar(a, v)));
                break;
            case 16:
                boolean on = pick(3) > 0;
                same("stop " + b + " " + on, of(machine.stop(b, on)), of(model.stop(b, on)));
                break;
            case 17, 18:
                boolean so = pick(3) > 0;
                int m = pick(2) == 0 ? a : pick(2);
                int i = pick(2) == 0 ? b : pick(12);
                same("watch " + m + " " + i + " " + so, of(machine.watch(m, i, so)), of(model.watch(m, i, so)));
                break;
            case 19:
                same("keep " + a, of(machine.keep(a)), of(model.keep(a)));
                break;
            case 20, 21:
                int other = pick(6) - 2;
                same("differs " + a + " " + other, machine.differs(a, other), model.differs(a, other));
                break;
            case 22:
                program(pick(12));
                break;
            case 23:
                same("check", machine.check(), model.check());
                break;
            default:
                int what = pick(12) - 1;
                same("flow " + b + " " + what, machine.flow(b, what), model.flow(b, what));
                same("trace " + b + " " + (what & 3), machine.trace(b, what & 3), model.trace(b, what & 3));
                break;
        }
        some();
    }

    private void program(int what) {
        if (what == 0) {
            machine.begin();
            model.begin();
            told.append("begin\n");
            spend();
        } else if (what < 5) {
            same("slim", machine.slim(), model.slim());
        } else if (what < 8) {
            same("restore", of(machine.restore()), of(model.restore()));
        }
    }

    private void run(int steps) {
        long got;
        long want;
        try {
            got = machine.run(steps);
        } catch (IllegalArgumentException e) {
            got = 99;
        }
        try {
            want = model.run(steps);
        } catch (IllegalArgumentException e) {
            want = 99;
        }
        same("run " + steps, got, want);
    }

    // ---- what can be seen

    /** Four things, so that there are calls left for more to be done. */
    private void some() {
        for (int k = 0; k < 4; k++) {
            int r = pick(8);
            switch (pick(6)) {
                case 0, 1:
                    int what = pick(14) - 1;
                    same("count " + what, machine.count(what), model.count(what));
                    break;
                case 2:
                    int part = r % 3;
                    int want = part == 0 ? model.fault : part == 1 ? model.faultPlace : model.faultLane;
                    same("fault " + part, machine.fault(part), want);
                    break;
                case 3:
                    same("trace 0 " + (r & 1), machine.trace(0, r & 1), model.trace(0, r & 1));
                    break;
                case 4:
                    lane(pick(2) == 0 ? r : 0);
                    break;
                default:
                    same("mask", machine.mask(r & 3), model.now.masks[r & 3]);
                    same("scalar", machine.scalarOf(r), model.now.scalars[r]);
                    break;
            }
        }
    }

    private void lane(int r) {
        Model.Row reg = model.now.regs[r];
        if (reg != null) {
            int i = pick(reg.bits.length);
            same("lane " + r + " " + i, machine.lane(r, i), reg.bits[i]);
        }
        Model.Row array = model.now.arrays[r];
        if (array != null && array.bits.length > 0) {
            int i = pick(array.bits.length);
            same("peek " + r + " " + i, machine.peek(r, i), array.bits[i]);
        }
    }

    private void rows(int r) {
        Model.Row reg = model.now.regs[r];
        same("register " + r + " 0", machine.register(r, 0), reg == null ? -1 : reg.kind);
        same("register " + r + " 1", machine.register(r, 1), reg == null ? 0 : reg.bits.length);
        for (int i = 0; reg != null && i < reg.bits.length; i++) {
            same("lane " + r + " " + i, machine.lane(r, i), reg.bits[i]);
        }
        Model.Row array = model.now.arrays[r];
        same("array " + r + " 0", machine.array(r, 0), array == null ? -1 : array.kind);
        same("array " + r + " 1", machine.array(r, 1), array == null ? 0 : array.bits.length);
        for (int i = 0; array != null && i < array.bits.length; i++) {
            same("peek " + r + " " + i, machine.peek(r, i), array.bits[i]);
        }
    }

    /** As much as there are calls left for. */
    private void all() {
        for (int what = 0; what < 12; what++) {
            same("count " + what, machine.count(what), model.count(what));
        }
        int first = pick(model.program.size() + 1);
        for (int i = first; i < Math.min(first + 3, model.program.size()); i++) {
            Model.Ins ins = model.program.get(i);
            same("code " + i + " 0", machine.code(i, 0), ins.op);
            for (int k = 0; k < 4; k++) {
                same("code " + i + " " + (k + 1), machine.code(i, k + 1), ins.operand[k]);
            }
            same("code " + i + " 5", machine.code(i, 5), ins.mask);
        }
        int k = pick(65);
        same("trace " + k, machine.trace(k, 0), model.trace(k, 0));
        for (int r = 0, from = pick(2) == 0 ? 0 : pick(8); r < 8; r++) {
            rows(r + from & 7);
        }
    }
}
