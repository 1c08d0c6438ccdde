import java.util.Random;

/** REAL results against Java's own, with numbers of all sizes: promise 10. */
public final class RealsTest {
    /** Two machines read the same numbers, so that none is called more than 512 times. */
    private static final String[][] WORDS = {{"add", "sub", "mul", "div", "rem"}, {"min", "max", "sqrt", "cast"}};

    private final Random random;
    private final int kind;
    private final LaneMachine machine = new LaneMachine();
    private final long[] x = new long[32];
    private final long[] y = new long[32];

    private RealsTest(int kind, long seed) {
        this.kind = kind;
        random = new Random(seed);
    }

    public static void main(String[] args) {
        for (long seed = 1; seed <= 300; seed++) {
            for (String[] words : WORDS) {
                new RealsTest(5, seed).run(words);
                new RealsTest(6, seed).run(words);
            }
        }
        Check.finish();
    }

    private void run(String[] words) {
        machine.memory(4, 32);
        machine.scalar(7, 0);
        machine.memory(kind, 32);
        machine.memory(kind, 32);
        wild(1, x);
        wild(2, y);
        for (String word : words) {
            compare(word);
        }
    }

    private char letter() {
        return kind == 5 ? 'f' : 'd';
    }

    /** Fills an array with numbers of few or many bits, from the least to the greatest. */
    private void wild(int array, long[] bits) {
        for (int i = 0; i < 32; i++) {
            long v = random.nextLong() >> random.nextInt(64);
            machine.poke(0, i, random.nextInt(3) == 0 ? v & -1L << random.nextInt(64) : v);
        }
        StringBuilder text = new StringBuilder("set v0,l,32;load v0,a0,s7;set v1,K,32;cast v1,v0;set v2,K,32;");
        text.append("mov s0,2;");
        text.append("mset m2,").append(random.nextInt() & 0xffffffffL & random.nextInt()).append(";neg v1,v1 ?m2;");
        text.append("fill v2,s0;");
        int squares = kind == 5 ? 6 : 9;
        // Some lanes only go down, far below the least number that has all its bits.
        long down = random.nextInt() & random.nextInt() & 0xffffffffL;
        for (int k = 0; k < squares; k++) {
            text.append("mset m0,").append(random.nextInt() & 0xffffffffL & ~down).append(";mul v1,v1,v2 ?m0;");
            text.append("mset m1,").append(random.nextInt() & 0xffffffffL | down).append(";div v1,v1,v2 ?m1;");
            text.append(k < squares - 1 ? "mul v2,v2,v2;" : "div v1,v1,v2 ?m1;div v1,v1,v2 ?m1;");
        }
        text.append("mset m0,").append(down & random.nextInt()).append(";mset m1,").append(down & random.nextInt());
        text.append(";mov s0,").append(kind == 5 ? 1 << 16 : 1L << 32).append(";fill v2,s0;div v1,v1,v2 ?m0;");
        text.append("mov s0,32;fill v2,s0;div v1,v1,v2 ?m1;");
        text.append("store v1,a").append(array).append(",s7");
        Check.program(machine, text.toString().replace('K', letter()));
        Check.due("run", machine.run(2000), 0);
        for (int i = 0; i < 32; i++) {
            bits[i] = machine.peek(array, i);
        }
    }

    private void compare(String word) {
        long[] want = new long[32];
        int finite = 0;
        int first = -1;
        int fault = 0;
        for (int i = 0; i < 32; i++) {
            try {
                want[i] = result(word, i);
                finite |= 1 << i;
            } catch (Model.Fault f) {
                fault = first < 0 ? f.what : fault;
                first = first < 0 ? i : first;
            }
        }
        String operands = word.equals("sqrt") || word.equals("cast") ? " v0,v1" : " v0,v1,v2";
        char to = !word.equals("cast") ? letter() : kind == 5 ? 'd' : 'f';
        Check.program(machine, ("set v0,T,32;set v1,K,32;set v2,K,32;load v1,a1,s7;load v2,a2,s7;mset m0,"
                + (finite & 0xffffffffL) + ";" + word + operands + " ?m0;" + word + operands)
                .replace('K', letter()).replace('T', to));
        Check.due("run", machine.run(7), -1);
        for (int i = 0; i < 32; i++) {
            Check.due(word + " of " + letter() + " " + x[i] + " and " + y[i], machine.lane(0, i), want[i]);
        }
        Check.due(word + " of all", machine.run(1), fault);
        Check.due(word + " of all, lane", machine.fault(2), first);
    }

    private long result(String word, int i) {
        switch (word) {
            case "sqrt":
                return Model.one(word, kind, x[i], i);
            case "cast":
                return Model.cast(kind, 11 - kind, x[i], i);
            default:
                return Model.two(word, kind, x[i], y[i], i);
        }
    }
}
