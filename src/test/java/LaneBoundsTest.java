/** INSTRUCTIONS 0 to 25: a test for each sentence that names a boundary of their results. */
public final class LaneBoundsTest {
    private static final long N = Check.d(-0.0);

    public static void main(String[] args) {
        set();
        wholeSums();
        wholeQuotients();
        realRests();
        leastAndGreatest();
        bits();
        shifts();
        shiftsByKinds();
        turned();
        roots();
        comparisons();
        comparedMasks();
        select();
        castsOfWholes();
        castsOfReals();
        sats();
        sourcesFirst();
        Check.finish();
    }

    private static long[] of(long... numbers) {
        return numbers;
    }

    private static double[] reals(double... numbers) {
        return numbers;
    }

    private static void set() {
        Check.holds("set: V has that kind and length, all lanes 0 (0, not -0)");
        for (int kind = 0; kind < 7; kind++) {
            char letter = Bench.KINDS.charAt(kind);
            LaneMachine m = Check.with(("set v0,d,32;neg v0,v0;set v0,K,1;set v0,K,32;neg v0,v0;set v0,K,32;"
                    + "mov s0,-1;fill v0,s0;set v0,K,2").replace('K', letter));
            m.run(3);
            Check.due("kind", m.register(0, 0), kind);
            Check.lanes("the least LENGTH", m, 0, 0);
            Check.due("LANES DONE", m.trace(0, 1), 1);
            m.run(1);
            Check.lanes("the greatest LENGTH", m, 0, new long[32]);
            Check.due("LANES DONE", m.trace(0, 1), 32);
            m.run(2);
            Check.lanes("not -0", m, 0, new long[32]);
            m.run(100);
            Check.lanes("set anew", m, 0, 0, 0);
        }
    }

    private static void wholeSums() {
        Check.holds("add, sub, mul: Whole results: LOW BITS");
        for (int kind = 0; kind < 5; kind++) {
            char letter = Bench.KINDS.charAt(kind);
            long least = Bench.LEAST[kind];
            long most = Bench.MOST[kind];
            String kinds = "" + letter + letter;
            LaneMachine m = Bench.wholes(kinds, of(most, least, most, least), of(1, least, most, most));
            Bench.makes(m, "add v0,v0,v1", least, 0, Model.low(kind, -2), kind == 2 ? most : -1);
            Bench.makes(m, "sub v0,v0,v1", most - 1, 0, 0, 1);
            Bench.makes(m, "sub v0,v1,v0", Model.low(kind, 1 - most), 0, 0, Model.low(kind, -1));
            Bench.makes(m, "mul v0,v0,v1", most, 0, 1, least);
        }
        LaneMachine m = Bench.wholes("hh", of(-32768, -32768, 256, 255), of(-1, 2, 256, 129));
        Bench.makes(m, "mul v0,v0,v1", -32768, 0, 0, -32641);
        m = Bench.wholes("cc", of(65535, 256, 65535), of(65535, 256, 2));
        Bench.makes(m, "mul v0,v0,v1", 1, 0, 65534);
        m = Bench.wholes("ll", of(Long.MAX_VALUE, Long.MIN_VALUE, 1L << 32), of(2, -1, 1L << 32));
        Bench.makes(m, "mul v0,v0,v1", -2, Long.MIN_VALUE, 0);
    }

    private static void wholeQuotients() {
        Check.holds("div, rem: quotient of whole ones towards 0, rest with the sign of x");
        for (int kind = 0; kind < 5; kind++) {
            String kinds = ("" + Bench.KINDS.charAt(kind)).repeat(2);
            long least = Bench.LEAST[kind];
            long most = Bench.MOST[kind];
            if (kind == 2) {
                LaneMachine m = Bench.wholes(kinds, of(65535, 7, 0, 65534, 1), of(2, 8, 5, 65535, 65535));
                Bench.makes(m, "div v0,v0,v1", 32767, 0, 0, 0, 0);
                Bench.makes(m, "rem v0,v0,v1", 1, 7, 0, 65534, 1);
            } else {
                LaneMachine m = Bench.wholes(kinds, of(7, -7, 7, -7, least, least, most, 0, most),
                        of(2, 2, -2, -2, -1, 1, least, -3, -1));
                Bench.makes(m, "div v0,v0,v1", 3, -3, -3, 3, least, least, 0, 0, -most);
                Bench.makes(m, "rem v0,v0,v1", 1, -1, 1, -1, 0, 0, most, 0, 0);
            }
        }
        Check.holds("A divisor 0 or -0: ZERO");
        for (int kind = 0; kind < 7; kind++) {
            String kinds = ("" + Bench.KINDS.charAt(kind)).repeat(2);
            for (long x : of(0, 5)) {
                for (String word : new String[] {"div", "rem"}) {
                    LaneMachine m = Bench.wholes(kinds, of(1, x, 1), of(1, 0, 1));
                    Check.due(word, Bench.run(m, word + " v0,v0,v1"), 5);
                    Check.fault(word + " by 0", m, 5, 4, 1);
                }
            }
        }
        for (String word : new String[] {"div", "rem"}) {
            LaneMachine m = Bench.floats('d', reals(1, 0, 1), reals(1, -0.0, 1));
            Bench.faults(m, word + " v0,v0,v1", 5, 1, word.equals("div") ? Check.d(1) : 0, 0, Check.d(1));
            m = Bench.floats('f', reals(3, -0.0), reals(-0.0, -0.0));
            Bench.faults(m, word + " v0,v0,v1", 5, 0, Check.f(3), Check.f(-0.0));
        }
    }

    private static void realRests() {
        Check.holds("rem: rest of x by y, with the sign of x; -0 too (exactly)");
        LaneMachine m = Bench.floats('d',
                reals(6, -6, 7, -7, 5, -5, 0x1p1023, -0x1p1023, 3 * Double.MIN_VALUE, 1, 0x1p1023, 0x1.8p1),
                reals(3, -3, -4, 4, 5.5, 1e300, 3, 0x1p-1074, 2 * Double.MIN_VALUE, 0x1.fffffffffffffp-2,
                        0x1.fffffffffffffp0, 0x1p0));
        Bench.makes(m, "rem v0,v0,v1", 0, N, Check.d(3), Check.d(-3), Check.d(5), Check.d(-5), Check.d(2), N, 1,
                Check.d(0x1p-53), Check.d(0x1p1023 % 0x1.fffffffffffffp0), 0);
        m = Bench.floats('f',
                reals(6, -6, 7, -7, 0x1p127, -0x1p127, 3 * 0x1p-149, 0x1p-149, -0x1p-149),
                reals(3, -3, -4, 4, 3, 0x1p-149, 2 * 0x1p-149, 0x1.fffffep127, 0x1p-126));
        Bench.makes(m, "rem v0,v0,v1", 0, Check.f(-0.0), Check.f(3), Check.f(-3), Check.f(2), Check.f(-0.0), 1, 1,
                Check.f(-0x1p-149));
        m = Bench.floats('d', reals(0, -0.0, 0, -0.0, 0), reals(Double.MIN_VALUE, Double.MIN_VALUE, 1, -1,
                -Double.MAX_VALUE));
        Bench.makes(m, "rem v0,v0,v1", 0, N, 0, N, 0);
    }

    private static void leastAndGreatest() {
        Check.holds("min, max: the lesser and the greater IN ORDER");
        for (int kind = 0; kind < 5; kind++) {
            long least = Bench.LEAST[kind];
            long most = Bench.MOST[kind];
            String kinds = ("" + Bench.KINDS.charAt(kind)).repeat(2);
            LaneMachine m = Bench.wholes(kinds, of(least, most, 5, least), of(most, least, 5, least));
            Bench.makes(m, "min v0,v0,v1", least, least, 5, least);
            Bench.makes(m, "max v0,v0,v1", most, most, 5, least);
        }
        LaneMachine m = Bench.floats('d', reals(-0.0, 0, Double.MIN_VALUE, -Double.MIN_VALUE, -Double.MAX_VALUE),
                reals(0, -0.0, 0, -0.0, Double.MAX_VALUE));
        Bench.makes(m, "min v0,v0,v1", N, N, 0, N + 1, Check.d(-Double.MAX_VALUE));
        Bench.makes(m, "max v0,v0,v1", 0, 0, 1, N, Check.d(Double.MAX_VALUE));
    }

    private static void bits() {
        Check.holds("and, or, xor: of their bits");
        for (int kind = 0; kind < 5; kind++) {
            long least = Bench.LEAST[kind];
            long most = Bench.MOST[kind];
            long all = kind == 2 ? most : -1;
            String kinds = ("" + Bench.KINDS.charAt(kind)).repeat(2);
            LaneMachine m = Bench.wholes(kinds, of(all, least, 12, all, 0), of(0, most, 10, all, 0));
            Bench.makes(m, "and v0,v0,v1", 0, 0, 8, all, 0);
            Bench.makes(m, "or v0,v0,v1", all, all, 14, all, 0);
            Bench.makes(m, "xor v0,v0,v1", all, all, 6, 0, 0);
        }
    }

    private static void shifts() {
        Check.holds("shl, shr, ush: x shifted by n, the lowest 3, 4, 4, 5, 6 bits of s (by kinds)");
        for (int kind = 0; kind < 5; kind++) {
            int width = Bench.WIDTH[kind];
            long least = Bench.LEAST[kind];
            long most = Bench.MOST[kind];
            long all = kind == 2 ? most : -1;
            long top = kind == 2 ? 32768 : least;
            String letter = "" + Bench.KINDS.charAt(kind);
            for (long s : of(width, -width, 0, Long.MIN_VALUE, 1L << 32)) {
                LaneMachine m = Bench.wholes(letter, of(1, all, least, most));
                for (String word : new String[] {"shl", "shr", "ush"}) {
                    m.scalar(0, s);
                    Bench.makes(m, word + " v0,v0,s0", 1, all, least, most);
                }
            }
            for (long s : of(width - 1, -1, 2 * width - 1, Long.MAX_VALUE)) {
                LaneMachine m = Bench.wholes(letter, of(1, all, least, most));
                m.scalar(0, s);
                Bench.makes(m, "shl v0,v0,s0", top, top, 0, top);
                Bench.makes(m, "shr v0,v0,s0", 0, kind == 2 ? 1 : -1, kind == 2 ? 0 : -1, kind == 2 ? 1 : 0);
                Bench.makes(m, "ush v0,v0,s0", 0, 1, kind == 2 ? 0 : 1, kind == 2 ? 1 : 0);
            }
        }
    }

    private static void shiftsByKinds() {
        Check.holds("shl: left, LOW BITS; shr: right with its sign; ush: right, x taken without sign in its width");
        for (int kind = 0; kind < 5; kind++) {
            long least = Bench.LEAST[kind];
            long most = Bench.MOST[kind];
            LaneMachine m = Bench.wholes("" + Bench.KINDS.charAt(kind), of(least, most, most - 1));
            m.scalar(0, 1 + Bench.WIDTH[kind]);
            Bench.makes(m, "shl v0,v0,s0", 0, kind == 2 ? 65534 : -2, kind == 2 ? 65532 : -4);
            Bench.makes(m, "shr v0,v0,s0", least / 2, most / 2, most / 2);
            Bench.makes(m, "ush v0,v0,s0", kind == 2 ? 0 : most / 2 + 1, most / 2, most / 2);
        }
        LaneMachine m = Bench.wholes("b", of(-1, -128, -100));
        m.scalar(0, 8);
        Bench.makes(m, "ush v0,v0,s0", -1, -128, -100);
    }

    private static void turned() {
        Check.holds("neg, abs: x turned, x or x turned if it is below 0: whole: LOW BITS");
        for (int kind = 0; kind < 5; kind++) {
            long least = Bench.LEAST[kind];
            long most = Bench.MOST[kind];
            LaneMachine m = Bench.wholes("" + Bench.KINDS.charAt(kind), of(least, most, 0, 1, least + 1));
            Bench.makes(m, "neg v0,v0", least, Model.low(kind, -most), 0, Model.low(kind, -1),
                    kind == 2 ? 65535 : most);
            Bench.makes(m, "abs v0,v0", least, most, 0, 1, kind == 2 ? 1 : most);
        }
        Check.holds("neg, abs: REAL: its sign is turned, its sign is off");
        LaneMachine m = Bench.floats('d', reals(0, -0.0, -Double.MIN_VALUE, Double.MAX_VALUE));
        Bench.makes(m, "neg v0,v0", N, 0, 1, Check.d(-Double.MAX_VALUE));
        Bench.makes(m, "abs v0,v0", 0, 0, 1, Check.d(Double.MAX_VALUE));
        m = Bench.floats('f', reals(0, -0.0, -Float.MIN_VALUE, Float.MAX_VALUE, -Float.MAX_VALUE));
        long most = Check.f(Float.MAX_VALUE);
        Bench.makes(m, "neg v0,v0", Check.f(-0.0), 0, 1, Check.f(-Float.MAX_VALUE), most);
        Bench.makes(m, "abs v0,v0", 0, 0, 1, most, most);
    }

    private static void roots() {
        Check.holds("sqrt: the root, NEAREST; of -0 it is -0");
        LaneMachine m = Bench.floats('d', reals(0, -0.0, 4, 2, 3, 0x1p-1074, 0x1p-1073, Double.MAX_VALUE,
                0x1.0000000000001p0, 0x1.fffffffffffffp-1));
        Bench.makes(m, "sqrt v0,v0", 0, N, Check.d(2), Check.d(0x1.6a09e667f3bcdp0), Check.d(0x1.bb67ae8584caap0),
                Check.d(0x1p-537), Check.d(0x1.6a09e667f3bcdp-537), Check.d(0x1.fffffffffffffp511), Check.d(1),
                Check.d(0x1.fffffffffffffp-1));
        m = Bench.floats('f', reals(0, -0.0, 4, 2, 3, 0x1p-149, 0x1p-148, Float.MAX_VALUE));
        Bench.makes(m, "sqrt v0,v0", 0, Check.f(-0.0), Check.f(2), Check.f((float) 0x1.6a09e667f3bcdp0),
                Check.f((float) 0x1.bb67ae8584caap0), Check.f((float) 0x1.6a09e667f3bcdp-75), Check.f(0x1p-74),
                Check.f(0x1.fffffep63));
        Check.holds("sqrt: below 0: RANGE");
        for (double below : reals(-Double.MIN_VALUE, -1, -Double.MAX_VALUE)) {
            m = Bench.floats('d', reals(4, -0.0, below, 4));
            Bench.faults(m, "sqrt v0,v0", 6, 2, Check.d(2), N, Check.d(below), Check.d(4));
        }
        m = Bench.floats('f', reals(-Float.MIN_VALUE));
        Bench.faults(m, "sqrt v0,v0", 6, 0, Check.f(-Float.MIN_VALUE));
    }

    private static void comparisons() {
        Check.holds("eq .. ge: the bit of each lane that is ON is 1 if it is so of x and y, else 0");
        String[] words = {"eq", "ne", "lt", "le", "gt", "ge"};
        int[] want = {0b1001, 0b0110, 0b0010, 0b1011, 0b0100, 0b1101};
        for (int kind = 0; kind < 5; kind++) {
            long least = Bench.LEAST[kind];
            long most = Bench.MOST[kind];
            String kinds = ("" + Bench.KINDS.charAt(kind)).repeat(2);
            LaneMachine m = Bench.wholes(kinds, of(least, least, most, most), of(least, most, least, most));
            for (int k = 0; k < 6; k++) {
                Check.due(words[k], Bench.run(m, "mset m0,4294967295;" + words[k] + " m0,v0,v1"), 0);
                Check.due(words[k] + " of kind " + kind, m.mask(0), want[k]);
            }
        }
        double most = Double.MAX_VALUE;
        double small = Double.MIN_VALUE;
        LaneMachine m = Bench.floats('d', reals(0, -most, small, -0.0), reals(-0.0, most, -small, 0));
        for (int k = 0; k < 6; k++) {
            Bench.run(m, words[k] + " m0,v0,v1");
            Check.due(words[k] + " of DOUBLES", m.mask(0), want[k]);
        }
        m = Bench.floats('f', reals(-1, -2, -1, 0), reals(-1, -1, -2, -0.0));
        for (int k = 0; k < 6; k++) {
            Bench.run(m, words[k] + " m0,v0,v1");
            Check.due(words[k] + " of FLOATS", m.mask(0), want[k]);
        }
    }

    private static void comparedMasks() {
        Check.holds("eq .. ge: bits of others stay");
        LaneMachine m = Bench.wholes("ii", of(1, 1, 1, 1), of(1, 1, 2, 2));
        Bench.run(m, "mset m0,10;mset m1,10;eq m0,v0,v1 ?m1");
        Check.due("bits 1 and 3 are ON", m.mask(0), 0b0010);
        Bench.run(m, "mset m0,10;mset m1,5;eq m0,v0,v1 ?m1");
        Check.due("bits 0 and 2 are ON", m.mask(0), 0b1011);
        Bench.run(m, "mset m0,10;mset m1,4294967280;eq m0,v0,v1 ?m1");
        Check.due("none is ON", m.mask(0), 0b1010);
        Check.holds("eq .. ge: bits from the LENGTH on become 0");
        Bench.run(m, "mset m0,4294967295;mset m1,4294967280;ne m0,v0,v1 ?m1");
        Check.due("none is ON", m.mask(0), 0b1111);
        Bench.run(m, "mset m0,4294967295;ne m0,v0,v1");
        Check.due("all are ON", m.mask(0), 0b1100);
        Check.holds("eq .. ge: all 32 bits with the greatest LENGTH, one with the least");
        m = Check.with("set v0,b,32;set v1,b,1;mset m0,1;mset m1,2147483648;mset m3,2147483647;eq m0,v0,v0 ?m1;"
                + "ne m3,v0,v0 ?m1;eq m2,v0,v0;eq m1,v1,v1");
        Check.due("run", m.run(100), 0);
        Check.due("bit 31 came", m.mask(0), 1 << 31 | 1);
        Check.due("bit 31 went", m.mask(3), Integer.MAX_VALUE);
        Check.due("all", m.mask(2), -1);
        Check.due("one", m.mask(1), 1);
        Check.holds("eq .. ge: The mask behind ? may be the same: it is looked at ahead");
        m = Bench.wholes("ii", of(1, 1, 1, 1), of(1, 1, 2, 2));
        Bench.run(m, "mset m2,4294967290;eq m2,v0,v1 ?m2");
        Check.due("the same", m.mask(2), 0b0010);
        Bench.run(m, "mset m2,4294967290;ne m2,v0,v1 ?m2");
        Check.due("the same", m.mask(2), 0b1000);
    }

    private static void select() {
        Check.holds("sel: lanes of x where M's bit is 1, of y elsewhere");
        LaneMachine m = Bench.wholes("iii", of(7, 7, 7, 7), of(1, 2, 3, 4), of(5, 6, 8, 9));
        Bench.makes(m, "mset m1,10;sel v0,m1,v1,v2", 5, 2, 8, 4);
        Bench.makes(m, "mset m1,0;sel v0,m1,v1,v2", 5, 6, 8, 9);
        Bench.makes(m, "mset m1,4294967295;sel v0,m1,v1,v2", 1, 2, 3, 4);
        Bench.makes(m, "mset m1,4294967280;sel v0,m1,v1,v2", 5, 6, 8, 9);
        Bench.makes(m, "mset m1,9;sel v0,m1,v0,v0", 7, 7, 7, 7);
        Bench.makes(m, "mset m1,9;sel v0,m1,v1,v0", 1, 7, 7, 4);
        m = Check.with("set v0,b,32;set v1,b,32;mov s0,1;fill v1,s0;mset m1,2147483648;sel v0,m1,v1,v0");
        m.run(100);
        Check.due("bit 31", m.lane(0, 31), 1);
        Check.due("bit 30", m.lane(0, 30), 0);
    }

    private static void castsOfWholes() {
        Check.holds("cast: whole of whole: LOW BITS; REAL: NEAREST");
        long[] x = {Long.MIN_VALUE, Long.MAX_VALUE, 128, -129, 32768, 65536, 1L << 31, (1L << 53) + 1};
        for (int kind = 0; kind < 7; kind++) {
            LaneMachine m = Bench.wholes(Bench.KINDS.charAt(kind) + "l", new long[8], x);
            long[] want = new long[8];
            for (int i = 0; i < 8; i++) {
                want[i] = kind == 5 ? Check.f(x[i]) : kind == 6 ? Check.d(x[i]) : Model.low(kind, x[i]);
            }
            Bench.makes(m, "cast v0,v1", want);
        }
        LaneMachine m = Bench.wholes("bc", of(0, 0), of(65535, 128));
        Bench.makes(m, "cast v0,v1", -1, -128);
        m = Bench.wholes("cb", of(0, 0), of(-1, -128));
        Bench.makes(m, "cast v0,v1", 65535, 65408);
        m = Bench.wholes("lc", of(0), of(65535));
        Bench.makes(m, "cast v0,v1", 65535);
        m = Bench.wholes("fl", of(0, 0), of((1L << 62) + (1L << 38), (1L << 62) + (1L << 38) + 1));
        Bench.makes(m, "cast v0,v1", Check.f(0x1p62), Check.f(0x1p62 + 0x1p39));
        Check.holds("cast: V's own kind, and V itself");
        m = Bench.floats('d', reals(-0.0, Double.MIN_VALUE, -Double.MAX_VALUE));
        Bench.makes(m, "cast v0,v0", N, 1, Check.d(-Double.MAX_VALUE));
    }

    private static void castsOfReals() {
        Check.holds("cast: whole of REAL: cut towards 0, held to LONG's least and greatest for LONG");
        double[] x = {0.999, -0.999, -1.5, 0x1p62, 0x1p63, 0x1.fffffffffffffp62, -0x1p63, -0x1.0000000000001p63, 1e300,
            -1e300, Double.MIN_VALUE, -0.0};
        LaneMachine m = Bench.floats('d', x);
        Bench.add(m, 'l', new long[12]);
        Bench.run(m, "cast v1,v0");
        Check.lanes("LONG", m, 1, 0, 0, -1, 1L << 62, Long.MAX_VALUE, Long.MAX_VALUE - 1023, Long.MIN_VALUE,
                Long.MIN_VALUE, Long.MAX_VALUE, Long.MIN_VALUE, 0, 0);
        Check.holds("cast: whole of REAL: held to INT's for others, then LOW BITS");
        double[] y = {2147483647.5, 2147483648.0, -2147483648.5, -2147483649.0, 65536 + 300.9, -1.9, -128.99, 1e10,
            -1e10};
        long[][] want = {
            {-1, -1, 0, 0, 44, -1, -128, -1, 0}, {-1, -1, 0, 0, 300, -1, -128, -1, 0},
            {65535, 65535, 0, 0, 300, 65535, 65408, 65535, 0},
            {Integer.MAX_VALUE, Integer.MAX_VALUE, Integer.MIN_VALUE, Integer.MIN_VALUE, 65836, -1, -128,
                Integer.MAX_VALUE, Integer.MIN_VALUE}};
        for (int kind = 0; kind < 4; kind++) {
            m = Bench.floats('d', y);
            Bench.add(m, Bench.KINDS.charAt(kind), new long[9]);
            Bench.run(m, "cast v1,v0");
            Check.lanes("kind " + kind, m, 1, want[kind]);
        }
        m = Bench.floats('f', reals(0x1p63, -0x1p63, 0x1p127, 0x1.fffffep62, -1.75, Float.MIN_VALUE));
        Bench.add(m, 'l', new long[6]);
        Bench.add(m, 'i', new long[6]);
        Bench.run(m, "cast v1,v0;cast v2,v0");
        Check.lanes("of FLOATS", m, 1, Long.MAX_VALUE, Long.MIN_VALUE, Long.MAX_VALUE, 0x7fffff8000000000L, -1, 0);
        int most = Integer.MAX_VALUE;
        Check.lanes("of FLOATS", m, 2, most, Integer.MIN_VALUE, most, most, -1, 0);
        Check.holds("cast: REAL of REAL: NEAREST (RANGE)");
        m = Bench.floats('f', reals(-0.0, Float.MIN_VALUE, Float.MAX_VALUE, 0));
        Bench.add(m, 'd', 1, 1, 1, 1);
        Bench.run(m, "cast v1,v0");
        Check.lanes("DOUBLES", m, 1, N, Check.d(0x1p-149), Check.d(Float.MAX_VALUE), 0);
        m = Bench.floats('d', reals(-0.0, 0, Double.MIN_VALUE, -Double.MIN_VALUE));
        Bench.add(m, 'f', 1, 1, 1, 1);
        Bench.run(m, "cast v1,v0");
        Check.lanes("FLOATS", m, 1, Check.f(-0.0), 0, 0, Check.f(-0.0));
        m = Bench.floats('d', reals(1, 0x1p128, 1));
        Bench.add(m, 'f', 7, 7, 7);
        Check.due("beyond", Bench.run(m, "mset m0,5;cast v1,v0 ?m0;cast v1,v0"), 6);
        Check.fault("beyond", m, 6, 6, 1);
        Check.lanes("beyond", m, 1, Check.f(1), Check.f(7), Check.f(1));
    }

    private static void sats() {
        Check.holds("sat: held to the least and greatest number of V's kind");
        for (int kind = 0; kind < 5; kind++) {
            long least = Bench.LEAST[kind];
            long most = Bench.MOST[kind];
            LaneMachine m = Bench.wholes(Bench.KINDS.charAt(kind) + "l", new long[6], of(least, most,
                    kind == 4 ? least : least - 1, kind == 4 ? most : most + 1, Long.MIN_VALUE, Long.MAX_VALUE));
            Bench.makes(m, "sat v0,v1", least, most, least, most, least, most);
        }
        LaneMachine m = Bench.wholes("cb", of(9, 9, 9), of(-1, 0, 127));
        Bench.makes(m, "sat v0,v1", 0, 0, 127);
        m = Bench.wholes("hc", of(9, 9), of(65535, 32767));
        Bench.makes(m, "sat v0,v1", 32767, 32767);
        Check.holds("sat: cut towards 0 if it is REAL, then held");
        for (int kind = 0; kind < 5; kind++) {
            long least = Bench.LEAST[kind];
            long most = Bench.MOST[kind];
            m = Bench.floats('d', reals(0.9, -0.9, 1.9, least - 0.5, most + 0.5, 1e300, -1e300, -0.0, 0x1p40, -0x1p40));
            Bench.add(m, Bench.KINDS.charAt(kind), new long[10]);
            Bench.run(m, "sat v1,v0");
            long up = kind == 4 ? 1L << 40 : most;
            long down = kind == 4 ? -1L << 40 : least;
            Check.lanes("kind " + kind, m, 1, 0, 0, 1, least, most, most, least, 0, up, down);
        }
        m = Bench.floats('d', reals(0x1p63, -0x1p63, 0x1.fffffffffffffp62));
        Bench.add(m, 'l', 0, 0, 0);
        Bench.run(m, "sat v1,v0");
        Check.lanes("LONG", m, 1, Long.MAX_VALUE, Long.MIN_VALUE, Long.MAX_VALUE - 1023);
    }

    private static void sourcesFirst() {
        Check.holds("Results are made of what registers were ahead of the instruction (so V may be x)");
        LaneMachine m = Bench.wholes("ii", of(1, 2, 3, 4), of(10, 20, 30, 40));
        Bench.makes(m, "add v0,v0,v0", 2, 4, 6, 8);
        Bench.makes(m, "sub v0,v1,v0", 9, 18, 27, 36);
        Bench.makes(m, "mul v0,v0,v1;neg v0,v0", -10, -40, -90, -160);
        Bench.makes(m, "scan v0,v0", 1, 3, 6, 10);
        Bench.makes(m, "half v0,v0", 10, 2, 3, 4);
        Bench.makes(m, "rev v0,v0", 4, 3, 2, 1);
        Bench.makes(m, "zip v0,v0,v0", 1, 1, 2, 2);
        Bench.makes(m, "zip v0,v1,v0", 10, 1, 20, 2);
        Bench.makes(m, "mov s0,1;rot v0,v0,s0", 2, 3, 4, 1);
        Bench.makes(m, "mset m0,10;pack v0,m0,v0", 2, 4, 3, 4);
        Bench.makes(m, "mset m0,12;spread v0,m0,v0", 1, 2, 1, 2);
        m = Bench.wholes("ii", of(3, 2, 1, 0), of(10, 20, 30, 40));
        Bench.makes(m, "shuf v0,v0,v0", 0, 1, 2, 3);
        Bench.makes(m, "shuf v0,v1,v0", 40, 30, 20, 10);
        Bench.makes(m, "gather v0,a1,v0", 40, 30, 20, 10);
        m = Bench.wholes("ii", of(3, 0, 1, 2), of(10, 20, 30, 40));
        Bench.makes(m, "shuf v0,v0,v0", 2, 3, 0, 1);
    }
}
