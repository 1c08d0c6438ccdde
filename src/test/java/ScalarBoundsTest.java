/** INSTRUCTIONS 46 to 67: a test for each sentence that names a boundary of their results. */
public final class ScalarBoundsTest {
    private static final long[] EDGES = {0, 1, -1, 2, -2, 7, -7, Long.MAX_VALUE, Long.MIN_VALUE, Long.MIN_VALUE + 1};

    public static void main(String[] args) {
        masks();
        counts();
        mov();
        sums();
        quotients();
        byZero();
        jumps();
        conditions();
        loops();
        calls();
        depth();
        returns();
        ends();
        Check.finish();
    }

    private static void masks() {
        Check.holds("Masks, all 32 bits: mand, mor, mxor, mnot, mset");
        long[] sides = {0, 4294967295L, 2147483648L, 1, 2863311530L};
        for (long a : sides) {
            for (long b : sides) {
                String sets = "mset m0," + a + ";mset m1," + b + ";";
                LaneMachine m = Check.with(sets + "mand m2,m0,m1;mor m3,m0,m1;end");
                Check.due("run", m.run(5), 0);
                Check.due("mset", m.mask(0), (int) a);
                Check.due("mand", m.mask(2), (int) (a & b));
                Check.due("mor", m.mask(3), (int) (a | b));
                Check.program(m, sets + "mxor m2,m0,m1;mnot m3,m0;mnot m1,m1;mxor m0,m0,m0");
                m.run(100);
                Check.due("mxor", m.mask(2), (int) (a ^ b));
                Check.due("mnot", m.mask(3), (int) ~a);
                Check.due("mnot of itself", m.mask(1), (int) ~b);
                Check.due("mxor of itself", m.mask(0), 0);
            }
        }
    }

    private static void counts() {
        Check.holds("mcount: how many are 1; mfirst: the least that is 1, -1 without");
        long[] masks = {0, 1, 2147483648L, 4294967295L, 4294967294L, 2147483647, 3221225472L};
        int[] many = {0, 1, 1, 32, 31, 31, 2};
        int[] first = {-1, 0, 31, 0, 1, 0, 30};
        for (int k = 0; k < masks.length; k++) {
            LaneMachine m = Check.with("mset m3," + masks[k] + ";mcount s0,m3;mfirst s7,m3");
            Check.due("run", m.run(9), 0);
            Check.due("mcount of " + masks[k], m.scalarOf(0), many[k]);
            Check.due("mfirst of " + masks[k], m.scalarOf(7), first[k]);
        }
    }

    private static void mov() {
        Check.holds("mov s N");
        LaneMachine m = Check.with("mov s0,999999999999999999;mov s7,-999999999999999999;mov s1,0");
        m.scalar(1, 5);
        m.run(9);
        Check.due("most", m.scalarOf(0), 999999999999999999L);
        Check.due("least", m.scalarOf(7), -999999999999999999L);
        Check.due("0", m.scalarOf(1), 0);
    }

    private static LaneMachine of(String lines, long x, long y) {
        LaneMachine m = Check.with(lines);
        m.scalar(0, x);
        m.scalar(1, y);
        return m;
    }

    private static void sums() {
        Check.holds("sadd, ssub, smul: s t u, going round");
        for (long x : EDGES) {
            for (long y : EDGES) {
                LaneMachine m = of("sadd s2,s0,s1;ssub s3,s0,s1;smul s4,s0,s1;sadd s0,s0,s0;ssub s1,s1,s1", x, y);
                Check.due("run", m.run(9), 0);
                Check.due(x + " sadd " + y, m.scalarOf(2), x + y);
                Check.due(x + " ssub " + y, m.scalarOf(3), x - y);
                Check.due(x + " smul " + y, m.scalarOf(4), x * y);
                Check.due("to itself", m.scalarOf(0), 2 * x);
                Check.due("from itself", m.scalarOf(1), 0);
            }
        }
    }

    private static void quotients() {
        Check.holds("sdiv, srem: s t u, towards 0, rest with the sign of t, going round");
        long[][] want = {{7, 2, 3, 1}, {-7, 2, -3, -1}, {7, -2, -3, 1}, {-7, -2, 3, -1},
            {Long.MIN_VALUE, -1, Long.MIN_VALUE, 0}, {Long.MAX_VALUE, -1, -Long.MAX_VALUE, 0},
            {Long.MIN_VALUE, 1, Long.MIN_VALUE, 0}, {Long.MAX_VALUE, Long.MIN_VALUE, 0, Long.MAX_VALUE},
            {Long.MIN_VALUE, Long.MAX_VALUE, -1, -1}, {0, 5, 0, 0}, {1, Long.MIN_VALUE, 0, 1}};
        for (long[] w : want) {
            LaneMachine m = of("sdiv s2,s0,s1;srem s3,s0,s1;sdiv s0,s0,s0", w[0], w[1]);
            m.run(2);
            Check.due(w[0] + " sdiv " + w[1], m.scalarOf(2), w[2]);
            Check.due(w[0] + " srem " + w[1], m.scalarOf(3), w[3]);
            Check.due("by itself", m.run(1), w[0] == 0 ? 5 : 0);
        }
    }

    private static void byZero() {
        Check.holds("sdiv, srem: u is 0: ZERO (lane -1 of scalars); all is as it was, PC stays");
        for (String word : new String[] {"sdiv", "srem"}) {
            for (long x : new long[] {0, 5, Long.MIN_VALUE}) {
                LaneMachine m = of("mov s2,9;" + word + " s2,s0,s1;end", x, 0);
                m.keep(0);
                Check.due("run", m.run(9), 5);
                Check.fault(word, m, 5, 1, -1);
                Check.due("s stays", m.scalarOf(2), 9);
                Check.due("PC stays", m.count(5), 1);
                Check.due("no STEP", m.count(1), 1);
            }
        }
    }

    private static void jumps() {
        Check.holds("jmp L: where it leads, also to itself, back, and to the end");
        LaneMachine m = Check.with("a: jmp a");
        Check.due("to itself", m.run(2000), -1);
        Check.due("PC", m.count(5), 0);
        Check.due("STEPS", m.count(1), 2000);
        m = Check.with("jmp b;a: jmp e;b: jmp a;e:");
        Check.due("run", m.run(3), 0);
        Check.due("PC", m.count(5), 3);
        Check.due("at the end", m.count(7), 1);
    }

    private static void conditions() {
        Check.holds("jeq, jne, jlt, jle: if it is so of s and t");
        String[] words = {"jeq", "jne", "jlt", "jle"};
        for (long x : EDGES) {
            for (long y : EDGES) {
                boolean[] so = {x == y, x != y, x < y, x <= y};
                for (int k = 0; k < 4; k++) {
                    LaneMachine m = of(words[k] + " s0,s1,e;end;e:", x, y);
                    m.run(1);
                    Check.due(words[k] + " " + x + " " + y, m.count(5), so[k] ? 2 : 1);
                    Check.due("at the end", m.count(7), so[k] ? 1 : 0);
                    m = of(words[k] + " s0,s0,e;end;e:", x, y);
                    m.run(1);
                    Check.due(words[k] + " of itself", m.count(5), k == 0 || k == 3 ? 2 : 1);
                }
            }
        }
    }

    private static void loops() {
        Check.holds("loop s L: s is 1 less (going round), and if it is not 0 then, L");
        for (long x : EDGES) {
            LaneMachine m = of("end;a: loop s0,e;end;e:", x, 0);
            Check.program(m, "loop s0,e;end;e:");
            m.run(1);
            Check.due("s", m.scalarOf(0), x - 1);
            Check.due("loop of " + x, m.count(5), x == 1 ? 1 : 2);
        }
        LaneMachine m = of("a: sadd s1,s1,s2;loop s0,a", 5, 0);
        m.scalar(2, 1);
        Check.due("run", m.run(100), 0);
        Check.due("so many times", m.scalarOf(1), 5);
        Check.due("0 at last", m.scalarOf(0), 0);
    }

    private static void calls() {
        Check.holds("call L: to L; ret: behind the latest call that is open, which is no more");
        LaneMachine m = Check.with("call f;end;f: call g;ret;g: ret");
        int[][] want = {{2, 1}, {4, 2}, {3, 1}, {1, 0}, {2, 0}};
        for (int[] w : want) {
            m.run(1);
            Check.due("PC", m.count(5), w[0]);
            Check.due("open", m.count(6), w[1]);
        }
        Check.due("ended", m.count(7), 1);
        Check.holds("call L: L may be the end, and behind it may be the end");
        m = Check.with("call e;end;e:");
        Check.due("to the end", m.run(1), 0);
        Check.due("PC", m.count(5), 2);
        Check.due("open", m.count(6), 1);
        m = Check.with("jmp a;f: ret;a: call f");
        Check.due("run", m.run(9), 0);
        Check.due("PC", m.count(5), 3);
        Check.due("open", m.count(6), 0);
        Check.due("STEPS", m.count(1), 3);
        m = Check.with("call a;a: call b;b: end");
        Check.due("run", m.run(9), 0);
        Check.due("those stay open", m.count(6), 2);
    }

    private static void depth() {
        Check.holds("call: with 16 open already: DEPTH");
        LaneMachine m = Check.with("f: call f");
        Check.due("16 are done", m.run(16), -1);
        Check.due("open", m.count(6), 16);
        Check.due("the 17th", m.run(1), 7);
        Check.fault("the 17th", m, 7, 0, -1);
        Check.due("PC stays", m.count(5), 0);
        Check.due("open", m.count(6), 16);
        Check.due("no STEP", m.count(1), 16);
        Check.due("STEPS of the list", m.count(4), 16);
        m = Check.with("f: sadd s0,s0,s1;jeq s0,s2,g;call f;g: ret");
        m.scalar(1, 1);
        m.scalar(2, 17);
        Check.due("16 and back", m.run(2000), 0);
        Check.due("open", m.count(6), 0);
        Check.due("so deep", m.scalarOf(0), 17);
        m.begin();
        m.scalar(0, 0);
        m.scalar(2, 18);
        Check.due("17", m.run(2000), 7);
        Check.fault("17", m, 7, 2, -1);
    }

    private static void returns() {
        Check.holds("ret: without one it ends (a STEP; PC is behind it)");
        LaneMachine m = Check.with("ret;end");
        Check.due("run", m.run(9), 0);
        Check.due("ended", m.count(7), 1);
        Check.due("PC", m.count(5), 1);
        Check.due("STEPS", m.count(1), 1);
        m = Check.with("call f;ret;end;f: ret");
        Check.due("with one it goes on", m.run(2), -1);
        Check.due("not ended", m.count(7), 0);
        Check.due("without it ends", m.run(1), 0);
        Check.due("PC", m.count(5), 2);
    }

    private static void ends() {
        Check.holds("end: it ends (a STEP; PC is behind it)");
        LaneMachine m = Check.with("mov s0,1;end;mov s0,2");
        Check.due("run", m.run(2), 0);
        Check.due("ended", m.count(7), 1);
        Check.due("PC", m.count(5), 2);
        Check.due("STEPS", m.count(1), 2);
        Check.due("nothing is done any more", m.run(9), 0);
        Check.due("scalar", m.scalarOf(0), 1);
        m = Check.with("call f;f: end");
        m.run(9);
        Check.due("calls stay open", m.count(6), 1);
        Check.holds("At PC = how many instructions there are it has ended");
        m = Check.with("mov s0,1");
        Check.due("not ahead of it", m.count(7), 0);
        Check.due("run", m.run(1), 0);
        Check.due("behind the last one", m.count(7), 1);
        Check.due("PC", m.count(5), 1);
        m = Check.with("end");
        Check.due("run", m.run(1), 0);
        Check.due("PC", m.count(5), 1);
    }
}
