/** What the 68 instructions do, worked out by hand: promises 10 and 29 (LANES DONE). */
public final class InstructionsTest {
    private static final String KINDS = "bhcilfd";

    public static void main(String[] args) {
        wholes();
        bits();
        signs();
        comparisons();
        casts();
        memory();
        moves();
        sums();
        scalarsOfLanes();
        masks();
        scalars();
        jumps();
        Check.finish();
    }

    private static long[] of(long... lanes) {
        return lanes;
    }

    /** A machine that has done the lines; x, y and z are a0, a1 and a2 then, and v0, v1 and v2 at first. */
    private static LaneMachine done(String kinds, long[] x, long[] y, long[] z, String lines) {
        long[][] all = {x, y, z};
        StringBuilder text = new StringBuilder();
        LaneMachine m = new LaneMachine();
        for (int k = 0; k < 3; k++) {
            m.memory(KINDS.indexOf(kinds.charAt(k)), all[k].length);
            for (int i = 0; i < all[k].length; i++) {
                m.poke(k, i, all[k][i]);
            }
            text.append("set v").append(k).append(',').append(kinds.charAt(k)).append(',').append(all[k].length);
            text.append(";load v").append(k).append(",a").append(k).append(",s7;");
        }
        Check.program(m, text + lines);
        m.run(6);
        Check.due("run " + lines, m.run(2000), 0);
        return m;
    }

    private static void lanes(String lines, LaneMachine m, int v, long... want) {
        Check.due(lines + ": LENGTH", m.register(v, 1), want.length);
        for (int i = 0; i < Math.min(m.register(v, 1), want.length); i++) {
            Check.due(lines + ": lane " + i, m.lane(v, i), want[i]);
        }
    }

    /** v0 becomes want by the lines, from x, y and z. */
    private static LaneMachine makes(String kinds, long[] x, long[] y, long[] z, String lines, long... want) {
        LaneMachine m = done(kinds, x, y, z, lines);
        lanes(lines, m, 0, want);
        return m;
    }

    private static long d(double d) {
        return Double.doubleToRawLongBits(d);
    }

    private static long f(float f) {
        return Float.floatToRawIntBits(f);
    }

    private static void wholes() {
        long[] x = {100, -128, 7, -7};
        long[] y = {100, -1, -2, 2};
        makes("bbb", x, x, y, "add v0,v1,v2", -56, 127, 5, -5);
        makes("bbb", x, x, y, "sub v0,v1,v2", 0, -127, 9, -9);
        makes("bbb", x, x, y, "mul v0,v1,v2", 16, -128, -14, -14);
        makes("bbb", x, x, y, "div v0,v1,v2", 1, -128, -3, -3);
        makes("bbb", x, x, y, "rem v0,v1,v2", 0, 0, 1, -1);
        makes("bbb", x, x, y, "min v0,v1,v2", 100, -128, -2, -7);
        makes("bbb", x, x, y, "max v0,v1,v2", 100, -1, 7, 2);
        makes("bbb", x, x, y, "add v0,v0,v0", -56, 0, 14, -14);
        long[] c = {65535, 0, 3, 40000};
        makes("ccc", c, c, of(2, 1, 5, 40000), "mul v0,v1,v2", 65534, 0, 15, 40000L * 40000 & 65535);
        makes("ccc", c, c, of(2, 1, 5, 40000), "sub v0,v1,v2", 65533, 65535, 65534, 0);
        makes("ccc", c, c, of(2, 1, 5, 40000), "div v0,v1,v2", 32767, 0, 0, 1);
        makes("hhh", of(0), of(-32768), of(-1), "div v0,v1,v2", -32768);
        makes("iii", of(0), of(Integer.MIN_VALUE), of(-1), "div v0,v1,v2", Integer.MIN_VALUE);
        makes("lll", of(0), of(Long.MIN_VALUE), of(-1), "div v0,v1,v2", Long.MIN_VALUE);
        makes("lll", of(5), of(Long.MIN_VALUE), of(-1), "rem v0,v1,v2", 0);
        makes("lll", of(5), of(Long.MAX_VALUE), of(1), "add v0,v1,v2", Long.MIN_VALUE);
        LaneMachine m = makes("iii", of(1, 2, 3, 4), of(1, 2, 3, 4), of(1, 1, 1, 1),
                "mset m1,4294967290;add v0,v1,v2 ?m1", 1, 3, 3, 5);
        Check.due("lanes that are ON", m.trace(0, 1), 2);
    }

    private static void bits() {
        long[] x = {-100, 101, 15, -1};
        long[] y = {60, -3, 6, 0};
        makes("bbb", x, x, y, "and v0,v1,v2", -100 & 60, 101 & -3, 6, 0);
        makes("bbb", x, x, y, "or v0,v1,v2", -100 | 60, 101 | -3, 15, -1);
        makes("bbb", x, x, y, "xor v0,v1,v2", -100 ^ 60, 101 ^ -3, 9, -1);
        makes("bbb", x, x, y, "mov s0,9;shl v0,v1,s0", 56, -54, 30, -2);
        makes("bbb", x, x, y, "mov s0,-7;shr v0,v1,s0", -50, 50, 7, -1);
        makes("bbb", x, x, y, "mov s0,1;ush v0,v1,s0", 78, 50, 7, 127);
        makes("bbb", x, x, y, "mov s0,8;ush v0,v1,s0", x);
        makes("hhh", of(0, 0), of(-2, 5), y = of(0, 0), "mov s0,17;ush v0,v1,s0", 32767, 2);
        makes("ccc", of(0, 0), of(65534, 5), y, "mov s0,15;shl v0,v1,s0", 0, 32768);
        makes("ccc", of(0, 0), of(65534, 5), y, "mov s0,1;shr v0,v1,s0", 32767, 2);
        makes("iii", of(0, 0), of(-2, 5), y, "mov s0,33;ush v0,v1,s0", Integer.MAX_VALUE, 2);
        makes("iii", of(0, 0), of(-2, 5), y, "mov s0,-1;shl v0,v1,s0", 0, Integer.MIN_VALUE);
        makes("lll", of(0, 0), of(-2, 5), y, "mov s0,65;ush v0,v1,s0", Long.MAX_VALUE, 2);
        makes("lll", of(0, 0), of(-2, 5), y, "mov s0,63;shr v0,v1,s0", -1, 0);
        makes("lll", of(0, 0), of(-2, 5), y, "mov s0,32;shl v0,v1,s0", -2L << 32, 5L << 32);
    }

    private static void signs() {
        makes("bbb", of(0, 0, 0), of(-128, 5, -6), of(0, 0, 0), "neg v0,v1", -128, -5, 6);
        makes("bbb", of(0, 0, 0), of(-128, 5, -6), of(0, 0, 0), "abs v0,v1", -128, 5, 6);
        makes("ccc", of(0, 0), of(1, 65535), of(0, 0), "neg v0,v1", 65535, 1);
        makes("ccc", of(0, 0), of(1, 65535), of(0, 0), "abs v0,v1", 1, 65535);
        makes("ddd", of(0, 0, 0), of(0, 5, -6), of(0, 0, 0), "neg v0,v1", d(-0.0), d(-5), d(6));
        makes("ddd", of(0, 0, 0), of(0, 5, -6), of(0, 0, 0), "neg v0,v1;abs v0,v0", d(0), d(5), d(6));
        makes("fff", of(0, 0, 0), of(0, 5, -6), of(0, 0, 0), "neg v0,v1", f(-0f), f(-5), f(6));
        makes("fff", of(0, 0, 0), of(0, 5, -6), of(0, 0, 0), "neg v0,v1;abs v0,v0", f(0), f(5), f(6));
        makes("fff", of(1, 0), of(0, 5), of(0), "abs v0,v1", f(0), f(5));
        makes("ddd", of(1, 0), of(0, 5), of(0), "abs v0,v1", d(0), d(5));
        makes("fff", of(0, 0, 0), of(9, 2, 0), of(0, 0, 0), "sqrt v0,v1", f(3), f((float) Math.sqrt(2)), f(0));
        makes("ddd", of(0, 0, 0), of(9, 2, 0), of(0, 0, 0), "sqrt v0,v1", d(3), d(Math.sqrt(2)), d(0));
        makes("ddd", of(0, 0), of(0, 0), of(0, 0), "neg v1,v1;sqrt v0,v1", d(-0.0), d(-0.0));
        // -0 is below 0 IN ORDER, and signs of 0 are as IEEE 754 has them.
        String zeros = "mset m1,2;neg v1,v1 ?m1;mset m1,4;neg v2,v2 ?m1;mset m1,8;neg v1,v1 ?m1;neg v2,v2 ?m1;";
        long n = d(-0.0);
        makes("ddd", of(1, 1, 1, 1), of(0, 0, 0, 0), of(0, 0, 0, 0), zeros + "min v0,v1,v2", 0, n, n, n);
        makes("ddd", of(1, 1, 1, 1), of(0, 0, 0, 0), of(0, 0, 0, 0), zeros + "max v0,v1,v2", 0, 0, 0, n);
        makes("ddd", of(1, 1, 1, 1), of(0, 0, 0, 0), of(0, 0, 0, 0), zeros + "add v0,v1,v2", 0, 0, 0, n);
        makes("ddd", of(1, 1, 1, 1), of(0, 0, 0, 0), of(0, 0, 0, 0), zeros + "sub v0,v1,v2", 0, n, 0, 0);
        makes("ddd", of(1, 1, 1, 1), of(0, 0, 0, 0), of(0, 0, 0, 0), zeros + "mul v0,v1,v2", 0, n, n, 0);
        makes("ddd", of(1, 1), of(-6, 6), of(3, -3), "rem v0,v1,v2", n, 0);
        makes("ddd", of(1, 1), of(-7, 7), of(3, -3), "rem v0,v1,v2", d(-1), d(1));
        makes("fff", of(1, 1), of(-6, 6), of(4, -4), "rem v0,v1,v2", f(-2), f(2));
        makes("fff", of(1, 1), of(1, -10), of(3, 3), "div v0,v1,v2", f(1f / 3), f(-10f / 3));
        makes("ddd", of(1, 1), of(5, 5), of(5, -5), "add v0,v1,v2", d(10), 0);
    }

    private static void comparisons() {
        String[] words = {"eq", "ne", "lt", "le", "gt", "ge"};
        int[] want = {0b010, 0b101, 0b001, 0b011, 0b100, 0b110};
        for (String kind : new String[] {"bbb", "hhh", "ccc", "iii", "lll", "fff", "ddd"}) {
            for (int k = 0; k < 6; k++) {
                LaneMachine m = done(kind, of(1, 5, 9), of(5, 5, 5), of(0), words[k] + " m0,v0,v1");
                Check.due(words[k] + " of " + kind, m.mask(0), want[k]);
                Check.due("lanes done", m.trace(0, 1), 0);
            }
        }
        LaneMachine m = done("ddd", of(0, -3, -3), of(0, -2, 3), of(0), "neg v0,v0;neg v0,v0 ?m0;mset m0,6;"
                + "neg v0,v0 ?m0;eq m1,v0,v1;lt m2,v0,v1;ge m3,v0,v1");
        Check.due("-0 is 0", m.mask(1), 0b001);
        Check.due("-3 is below -2", m.mask(2), 0b110);
        Check.due("ge", m.mask(3), 0b001);
        // Bits that are not ON stay, those from the LENGTH on become 0; the mask behind ? may be the same.
        m = done("iii", of(1, 2, 3, 4), of(1, 2, 0, 0), of(0), "mset m0,4294967285;mset m1,12;eq m0,v0,v1 ?m1;"
                + "mset m2,3;mset m3,6;eq m3,v0,v1 ?m3");
        Check.due("others stay", m.mask(0), 0b0001);
        Check.due("the same mask", m.mask(3), 0b0010);
        m = done("iii", new long[32], new long[32], of(0), "eq m0,v0,v1");
        Check.due("all bits", m.mask(0), -1);
    }

    private static void casts() {
        makes("bil", of(0, 0, 0), of(200, -200, 7), of(0), "cast v0,v1", -56, 56, 7);
        makes("cil", of(0, 0, 0), of(-1, 70000, 7), of(0), "cast v0,v1", 65535, 4464, 7);
        makes("dil", of(0, 0, 0), of(-1, 70000, 7), of(0), "cast v0,v1", d(-1), d(70000), d(7));
        makes("fll", of(0, 0), of(16777217, Long.MIN_VALUE), of(0), "cast v0,v1", f(16777216), f(-0x1p63f));
        makes("fdl", of(0, 0), of(16777217, -3), of(0), "cast v0,v1", f(16777216), f(-3));
        makes("dfl", of(0, 0), of(16777217, -3), of(0), "cast v0,v1", d(16777216), d(-3));
        makes("idd", of(0, 0, 0, 0), of(7, -7, 1L << 40, -1L << 40), of(2, 2, 1, 1), "div v1,v1,v2;cast v0,v1",
                3, -3, Integer.MAX_VALUE, Integer.MIN_VALUE);
        makes("bdd", of(0, 0, 0, 0), of(300, -300, 1L << 40, -1L << 40), of(0), "cast v0,v1", 44, -44, -1, 0);
        makes("cdd", of(0, 0, 0, 0), of(65536, -1, 1L << 40, -1L << 40), of(0), "cast v0,v1", 0, 65535, 65535, 0);
        makes("lff", of(0, 0, 0), of(Long.MAX_VALUE, Long.MIN_VALUE, -9), of(0), "cast v0,v1", Long.MAX_VALUE,
                Long.MIN_VALUE, -9);
        makes("lff", of(0, 0), of(Long.MAX_VALUE, Long.MIN_VALUE), of(0), "mul v1,v1,v1;cast v0,v1", Long.MAX_VALUE,
                Long.MAX_VALUE);
        makes("ldd", of(0, 0), of(1L << 62, -1L << 62), of(0), "cast v0,v1", 1L << 62, -1L << 62);
        makes("ffl", of(0, 0), of(0, 5), of(0), "neg v1,v1;cast v0,v1", f(-0f), f(-5));
        makes("dfl", of(0, 0), of(0, 5), of(0), "neg v1,v1;cast v0,v1", d(-0.0), d(-5));
        makes("idd", of(9), of(0), of(0), "neg v1,v1;cast v0,v1", 0);
        long[] far = {-1L << 40, -40000, -300, -1, 300, 40000, 70000, 1L << 40};
        makes("bll", new long[8], far, of(0), "sat v0,v1", -128, -128, -128, -1, 127, 127, 127, 127);
        makes("hll", new long[8], far, of(0), "sat v0,v1", -32768, -32768, -300, -1, 300, 32767, 32767, 32767);
        makes("cll", new long[8], far, of(0), "sat v0,v1", 0, 0, 0, 0, 300, 40000, 65535, 65535);
        makes("idd", new long[8], far, of(0), "sat v0,v1", Integer.MIN_VALUE, -40000, -300, -1, 300, 40000, 70000,
                Integer.MAX_VALUE);
        makes("bdd", new long[8], far, of(0), "sat v0,v1", -128, -128, -128, -1, 127, 127, 127, 127);
        makes("ldd", of(0, 0), of(-7, Long.MAX_VALUE), of(2, 1), "div v1,v1,v2;sat v0,v1", -3, Long.MAX_VALUE);
        LaneMachine m = makes("iff", of(1, 2, 3), of(7, 8, 9), of(0), "mset m0,5;cast v0,v1 ?m0", 7, 2, 9);
        Check.due("lanes that are ON", m.trace(0, 1), 2);
    }

    private static void memory() {
        LaneMachine m = makes("bib", of(1, 2, 3, 4), of(3, 0, 0, 2), of(50, 60, 70, 80), "gather v0,a2,v1", 80, 50, 50,
                70);
        Check.due("lanes done", m.trace(0, 1), 4);
        makes("iii", of(3, 2, 1, 0), of(0), of(50, 60, 70, 80), "gather v0,a2,v0", 80, 70, 60, 50);
        makes("bib", of(1, 2, 3, 4), of(9, 0, -1, 2), of(50, 60, 70, 80), "mset m0,10;gather v0,a2,v1 ?m0", 1, 50, 3,
                70);
        m = done("bib", of(1, 2, 3, 4), of(3, 0, 0, 2), of(50, 60, 70, 80), "scatter v0,a2,v1");
        long[] want = {3, 60, 4, 1};
        for (int i = 0; i < 4; i++) {
            Check.due("element " + i, m.peek(2, i), want[i]);
        }
        Check.due("elements written", m.trace(0, 1), 4);
        makes("iii", of(1, 2, 3), of(0), of(50, 60, 70, 80), "mov s0,1;load v0,a2,s0", 60, 70, 80);
        makes("iii", of(1, 2, 3), of(0), of(50, 60, 70, 80), "mset m0,6;mov s0,-1;load v0,a2,s0 ?m0", 1, 50, 60);
        m = done("iii", of(1, 2, 3), of(0), of(50, 60, 70, 80), "mset m0,3;mov s0,2;store v0,a2,s0 ?m0");
        want = of(50, 60, 1, 2);
        for (int i = 0; i < 4; i++) {
            Check.due("element " + i, m.peek(2, i), want[i]);
        }
        Check.due("elements written", m.trace(0, 1), 2);
        makes("bib", of(1, 2, 3, 4), of(0), of(0), "mov s0,300;fill v0,s0", 44, 44, 44, 44);
        makes("fib", of(1, 2), of(0), of(0), "mov s0,16777217;fill v0,s0", f(16777216), f(16777216));
        makes("fib", of(1, 2, 3), of(0), of(0), "mov s0,16777216;iota v0,s0", f(16777216), f(16777216), f(16777218));
        makes("bib", of(1, 2, 3, 4), of(0), of(0), "mset m0,6;mov s0,126;iota v0,s0 ?m0", 1, 127, -128, 4);
        makes("lib", of(1, 2), of(0), of(0), "mov s0,999999999999999999;iota v0,s0", 999999999999999999L,
                1000000000000000000L);
        makes("dib", of(1, 2), of(Integer.MAX_VALUE), of(0), "mov s0,-1;iota v0,s0", d(-1), 0);
        m = Check.with("set v0,d,2;iota v0,s0;set v1,l,2;iota v1,s0");
        m.scalar(0, Long.MAX_VALUE);
        m.run(10);
        lanes("a long that goes round", m, 0, d(0x1p63), d(-0x1p63));
        lanes("a long that goes round", m, 1, Long.MAX_VALUE, Long.MIN_VALUE);
        makes("bib", of(1, 2, 3, 4), of(0), of(0), "set v0,d,3", 0, 0, 0);
    }

    private static void moves() {
        long[] x = {10, 11, 12, 13, 14};
        long[] y = {20, 21, 22, 23, 24};
        LaneMachine m = makes("hhh", x, x, y, "mset m1,37;sel v0,m1,v1,v2", 10, 21, 12, 23, 24);
        Check.due("lanes done", m.trace(0, 1), 5);
        m = makes("hhh", y, x, y, "mset m1,4294967274;pack v0,m1,v1", 11, 13, 22, 23, 24);
        Check.due("bits below the LENGTH", m.trace(0, 1), 2);
        makes("hhh", x, x, y, "mset m1,26;pack v0,m1,v0", 11, 13, 14, 13, 14);
        m = makes("hhh", y, x, y, "mset m1,4294967274;spread v0,m1,v1", 20, 10, 22, 11, 24);
        Check.due("bits below the LENGTH", m.trace(0, 1), 2);
        makes("hhh", x, x, y, "mset m1,26;spread v0,m1,v0", 10, 10, 12, 11, 12);
        makes("hhi", x, x, of(4, 0, 0, 2, 1), "shuf v0,v1,v2", 14, 10, 10, 12, 11);
        makes("hhi", x, x, of(4, 3, 2, 1, 0), "shuf v0,v0,v2", 14, 13, 12, 11, 10);
        makes("hhi", x, x, of(4, 3, 5, 1, -1), "mset m0,11;shuf v0,v0,v2 ?m0", 14, 13, 12, 11, 14);
        makes("iii", of(1, 2, 0), of(0), of(0), "shuf v0,v0,v0", 2, 0, 1);
        makes("hhh", x, x, y, "mov s0,1;rot v0,v0,s0", 11, 12, 13, 14, 10);
        makes("hhh", x, x, y, "mov s0,-11;rot v0,v1,s0", 14, 10, 11, 12, 13);
        makes("hhh", x, x, y, "mov s0,2;mset m0,17;rot v0,v1,s0 ?m0", 12, 11, 12, 13, 11);
        m = Check.with("set v0,b,3;mov s1,1;iota v0,s1;rot v0,v0,s0");
        m.scalar(0, Long.MAX_VALUE);
        m.run(10);
        // 2 to the 63 less 1 is 1 more than a multiple of 3, and exactly so for each lane.
        lanes("rot by the greatest", m, 0, 2, 3, 1);
        makes("hhh", x, x, y, "rev v0,v0", 14, 13, 12, 11, 10);
        makes("hhh", x, x, y, "mset m0,3;rev v0,v1 ?m0", 14, 13, 12, 13, 14);
        makes("hhh", x, x, y, "zip v0,v1,v2", 10, 20, 11, 21, 12);
        makes("hhh", x, x, y, "zip v0,v2,v0", 20, 10, 21, 11, 22);
        m = makes("bbb", of(5, -3, 5, 0, -128), of(0), of(0), "sort v0,v0", -128, -3, 0, 5, 5);
        Check.due("lanes done", m.trace(0, 1), 5);
        makes("fff", of(3, 0, -2, 0, -3), of(0), of(0), "mset m0,2;neg v0,v0 ?m0;mset m0,8;neg v0,v0 ?m0;abs v0,v0 ?m0;"
                + "mset m0,2;sort v0,v0", f(-3), f(-2), f(-0f), f(0), f(3));
    }

    private static void sums() {
        LaneMachine m = makes("bbb", of(0, 0, 0, 0), of(100, 100, 3, 4), of(0), "scan v0,v1", 100, -56, -53, -49);
        Check.due("lanes done", m.trace(0, 1), 4);
        makes("bbb", of(9, 9, 9, 9), of(100, 100, 3, 4), of(0), "mset m0,10;scan v0,v1 ?m0", 9, 100, 9, 104);
        makes("iii", of(1, 2, 3, 4), of(0), of(0), "scan v0,v0", 1, 3, 6, 10);
        // The first one stays -0, as it is.
        makes("ddd", of(0, 0), of(0), of(0), "neg v0,v0;scan v0,v0", d(-0.0), d(-0.0));
        makes("fff", of(0, 0, 0), of(16777216, 1, 1), of(0), "scan v0,v1", f(16777216), f(16777216), f(16777216));
        m = makes("iii", of(7, 7, 7, 7, 7), of(1, 2, 3, 4, 5), of(0), "half v0,v1", 15, 7, 7, 7, 7);
        Check.due("lanes done", m.trace(0, 1), 1);
        makes("bbb", of(7), of(9), of(0), "half v0,v1", 9);
        makes("bbb", of(7, 7, 7), of(100, 100, 3), of(0), "half v0,v1", -53, 7, 7);
        // (2^24 + 1) and (1 + -2^24) are rounded ahead of their sum: 1 with 2 places apart, else 2.
        makes("fff", of(0, 0, 0, 0), of(16777216, 1, 1, -16777216), of(0), "half v0,v1", f(1), 0, 0, 0);
        makes("fff", of(0, 0, 0, 0), of(16777216, 1, -16777216, 1), of(0), "half v0,v1", f(2), 0, 0, 0);
        makes("ddd", of(1), of(0), of(0), "neg v1,v1;half v0,v1", d(-0.0));
    }

    private static void scalarsOfLanes() {
        LaneMachine m = done("lll", of(Long.MAX_VALUE, 5, -9), of(0), of(0), "sum s0,v0;least s1,v0;most s2,v0;"
                + "mset m0,6;sum s3,v0 ?m0;least s4,v0 ?m0;most s5,v0 ?m0");
        long[] want = {Long.MAX_VALUE - 4, -9, Long.MAX_VALUE, -4, -9, 5};
        for (int s = 0; s < 6; s++) {
            Check.due("s" + s, m.scalarOf(s), want[s]);
        }
        Check.due("lanes done", m.trace(0, 1), 0);
        m = done("lll", of(Long.MAX_VALUE, 1), of(0), of(0), "sum s0,v0;mov s1,7;mov s2,7;mov s3,7;mset m0,8;"
                + "sum s1,v0 ?m0;least s2,v0 ?m0;most s3,v0 ?m0");
        Check.due("it goes round", m.scalarOf(0), Long.MIN_VALUE);
        Check.due("sum of none", m.scalarOf(1), 0);
        Check.due("least of none", m.scalarOf(2), 7);
        Check.due("most of none", m.scalarOf(3), 7);
        long[] all = new long[32];
        java.util.Arrays.fill(all, 3);
        m = done("lll", all, of(0), of(0), "sum s0,v0;least s1,v0;neg v0,v0;most s2,v0");
        Check.due("sum of 32", m.scalarOf(0), 96);
        Check.due("least of 32", m.scalarOf(1), 3);
        Check.due("most of 32", m.scalarOf(2), -3);
        m = done("fcd", of(1, -2), of(65535), of(1, 3), "get s0,v0,1;get s1,v1,0;get s2,v2,1;put v2,0,s0;put v0,0,s1");
        Check.due("BITS of a FLOAT", m.scalarOf(0), f(-2));
        Check.due("BITS of a CHAR", m.scalarOf(1), 65535);
        Check.due("BITS of a DOUBLE", m.scalarOf(2), d(3));
        lanes("put", m, 2, d(f(-2)), d(3));
        lanes("put", m, 0, f(65535), f(-2));
        Check.due("lanes done of put", m.trace(0, 1), 1);
        Check.due("lanes done of get", m.trace(2, 1), 0);
    }

    private static void masks() {
        LaneMachine m = Check.with("mset m0,4042322160;mset m1,4278255360;mand m2,m0,m1;mor m3,m0,m1;mxor m1,m0,m1;"
                + "mcount s0,m0;mfirst s1,m0;mfirst s2,m3;mnot m0,m0;mset m3,0;mcount s3,m3;mfirst s4,m3;"
                + "mset m3,4294967295;mcount s5,m3;mset m3,2147483648;mfirst s6,m3");
        Check.due("run", m.run(100), 0);
        Check.due("mand", m.mask(2), 0xf000f000);
        Check.due("mxor", m.mask(1), 0x0ff00ff0);
        Check.due("mnot", m.mask(0), 0x0f0f0f0f);
        long[] want = {16, 4, 4, 0, -1, 32, 31};
        for (int s = 0; s < want.length; s++) {
            Check.due("s" + s, m.scalarOf(s), want[s]);
        }
        Check.due("lanes done", m.count(2), 0);
    }

    private static void scalars() {
        LaneMachine m = Check.with("sadd s2,s0,s1;ssub s3,s0,s1;smul s4,s0,s1;sdiv s5,s0,s1;srem s6,s0,s1;mov s7,-8");
        long[][] of = {{7, -2}, {-7, 2}, {Long.MIN_VALUE, -1}, {Long.MAX_VALUE, Long.MAX_VALUE}, {5, 7}};
        for (long[] xy : of) {
            m.scalar(0, xy[0]);
            m.scalar(1, xy[1]);
            m.begin();
            Check.due("run", m.run(100), 0);
            long[] want = {xy[0] + xy[1], xy[0] - xy[1], xy[0] * xy[1], xy[0] / xy[1], xy[0] % xy[1], -8};
            for (int k = 0; k < 6; k++) {
                Check.due("s" + (k + 2) + " of " + xy[0] + " and " + xy[1], m.scalarOf(k + 2), want[k]);
            }
        }
    }

    private static void jumps() {
        String[] words = {"jeq", "jne", "jlt", "jle"};
        long[][] pairs = {{1, 2}, {2, 2}, {3, 2}, {Long.MIN_VALUE, Long.MAX_VALUE}};
        boolean[][] so = {{false, true, false, false}, {true, false, true, true}, {true, false, false, true},
            {true, true, false, true}};
        for (int k = 0; k < 4; k++) {
            LaneMachine m = Check.with(words[k] + " s0,s1,a;end;a: end");
            for (int p = 0; p < 4; p++) {
                m.scalar(0, pairs[p][0]);
                m.scalar(1, pairs[p][1]);
                m.begin();
                m.run(1);
                Check.due(words[k] + " " + pairs[p][0] + " " + pairs[p][1], m.count(5), so[k][p] ? 2 : 1);
            }
        }
        LaneMachine m = Check.with("loop s0,a;end;a: end");
        long[][] loops = {{1, 0, 1}, {0, -1, 2}, {2, 1, 2}, {Long.MIN_VALUE, Long.MAX_VALUE, 2}};
        for (long[] loop : loops) {
            m.scalar(0, loop[0]);
            m.begin();
            m.run(1);
            Check.due("loop's scalar", m.scalarOf(0), loop[1]);
            Check.due("loop leads to", m.count(5), loop[2]);
        }
    }
}
