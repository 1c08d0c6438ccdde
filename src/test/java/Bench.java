/** Machines with chosen numbers in their arrays, and lines that work on them in registers. */
final class Bench {
    static final String KINDS = "bhcilfd";
    static final long[] LEAST = {-128, -32768, 0, Integer.MIN_VALUE, Long.MIN_VALUE};
    static final long[] MOST = {127, 32767, 65535, Integer.MAX_VALUE, Long.MAX_VALUE};
    static final int[] WIDTH = {8, 16, 16, 32, 64};

    private Bench() {
    }

    static long[] of(long... numbers) {
        return numbers;
    }

    static double[] reals(double... numbers) {
        return numbers;
    }

    /** A machine in which a0, a1, .. have these elements; each array's kind is a letter. */
    static LaneMachine wholes(String kinds, long[]... arrays) {
        LaneMachine m = new LaneMachine();
        for (int k = 0; k < arrays.length; k++) {
            add(m, kinds.charAt(k), arrays[k]);
        }
        return m;
    }

    /** Another array; REAL ones get what is NEAREST to the numbers. */
    static void add(LaneMachine m, char kind, long... elements) {
        int a = m.memory(KINDS.indexOf(kind), elements.length);
        for (int i = 0; i < elements.length; i++) {
            m.poke(a, i, elements[i]);
        }
    }

    /** A machine in which a0, a1, .. are of one REAL kind and have just these numbers, whatever their size. */
    static LaneMachine floats(char kind, double[]... arrays) {
        LaneMachine m = new LaneMachine();
        for (double[] numbers : arrays) {
            addReals(m, kind, numbers);
        }
        return m;
    }

    /** No call pokes such numbers: significands are poked, and a program moves them to their size. */
    static void addReals(LaneMachine m, char kind, double... numbers) {
        int a = m.memory(KINDS.indexOf(kind), numbers.length);
        int[] exponents = new int[numbers.length];
        long negative = 0;
        for (int i = 0; i < numbers.length; i++) {
            long bits = Double.doubleToRawLongBits(numbers[i]);
            int field = (int) (bits >>> 52) & 2047;
            long fraction = bits & (1L << 52) - 1;
            long significand = field == 0 ? fraction : fraction | 1L << 52;
            int up = significand == 0 ? 0 : Long.numberOfTrailingZeros(significand);
            exponents[i] = significand == 0 ? 0 : Math.max(field, 1) - 1075 + up;
            negative |= bits < 0 ? 1L << i : 0;
            m.poke(a, i, significand >>> up);
        }
        Check.program(m, mover(kind, a, exponents, negative));
        Check.due("moving the numbers", m.run(2000), 0);
        m.scalar(6, 0);
        for (int i = 0; i < numbers.length; i++) {
            long bits = kind == 'f' ? Check.f(numbers[i]) : Check.d(numbers[i]);
            Check.due("the number " + numbers[i], m.peek(a, i), bits);
        }
    }

    private static String mover(char kind, int a, int[] exponents, long negative) {
        int n = exponents.length;
        StringBuilder text = new StringBuilder();
        text.append("set v7,").append(kind).append(',').append(n).append(";load v7,a").append(a).append(",s7;");
        text.append("set v6,").append(kind).append(',').append(n).append(";mov s6,2;fill v6,s6;");
        int last = kind == 'f' ? 6 : 9;
        for (int bit = 0; bit <= last; bit++) {
            long up = 0;
            long down = 0;
            for (int i = 0; i < n; i++) {
                if ((Math.abs(exponents[i]) >> bit & 1) != 0) {
                    up |= exponents[i] > 0 ? 1L << i : 0;
                    down |= exponents[i] < 0 ? 1L << i : 0;
                }
            }
            text.append(up == 0 ? "" : "mset m3," + up + ";mul v7,v7,v6 ?m3;");
            text.append(down == 0 ? "" : "mset m3," + down + ";div v7,v7,v6 ?m3;");
            text.append(bit < last ? "mul v6,v6,v6;" : "");
        }
        long far = 0;
        for (int i = 0; i < n; i++) {
            far |= -exponents[i] >> last + 1 > 0 ? 1L << i : 0;
        }
        text.append(far == 0 ? "" : "mset m3," + far + ";div v7,v7,v6 ?m3;div v7,v7,v6 ?m3;");
        text.append(negative == 0 ? "" : "mset m3," + negative + ";neg v7,v7 ?m3;");
        return text.append("store v7,a").append(a).append(",s7").toString();
    }

    /** The instruction with that number, with operands; its L is the label l. */
    static String line(int op) {
        StringBuilder line = new StringBuilder(Model.WORDS[op] + " ");
        String letters = Model.OPERANDS[op].replace("?", "").replace("-", "");
        for (int k = 0; k < letters.length(); k++) {
            char letter = letters.charAt(k);
            line.append(k > 0 ? "," : "");
            line.append("VMSA".indexOf(letter) >= 0 ? Character.toLowerCase(letter) + "1"
                    : letter == 'K' ? "d" : letter == 'L' ? "l" : "7");
        }
        return line.toString();
    }

    /** How many instructions stand ahead of the lines: that many are done. */
    static int ahead(LaneMachine m) {
        int arrays = 0;
        while (arrays < 8 && m.array(arrays, 1) > 0) {
            arrays++;
        }
        return 2 * arrays;
    }

    /** Makes v0 of a0, v1 of a1, .. (s7 must be 0), then runs the lines: what run() answers. */
    static int run(LaneMachine m, String lines) {
        int ahead = ahead(m);
        StringBuilder text = new StringBuilder();
        for (int k = 0; k < ahead / 2; k++) {
            text.append("set v").append(k).append(',').append(KINDS.charAt(m.array(k, 0))).append(',');
            text.append(m.array(k, 1)).append(";load v").append(k).append(",a").append(k).append(",s7;");
        }
        Check.program(m, text + lines);
        m.run(ahead);
        return m.run(2000);
    }

    /** v0 becomes want by the lines. */
    static void makes(LaneMachine m, String lines, long... want) {
        Check.due(lines + ": run", run(m, lines), 0);
        Check.lanes(lines, m, 0, want);
    }

    /** The lines end with a FAULT of the last instruction of theirs, and v0 has these lanes then. */
    static void faults(LaneMachine m, String lines, int fault, int lane, long... want) {
        Check.due(lines + ": run", run(m, lines), fault);
        Check.fault(lines, m, fault, m.count(0) - 1, lane);
        Check.lanes(lines, m, 0, want);
    }
}
