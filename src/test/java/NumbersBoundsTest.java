/** "Terms", NUMBERS: a test for each sentence that names a boundary. */
public final class NumbersBoundsTest {
    private static final double MOST_FLOAT = Float.MAX_VALUE;
    private static final double LEAST_FLOAT = Float.MIN_VALUE;

    public static void main(String[] args) {
        kinds();
        wholeKinds();
        realKinds();
        bits();
        lowBits();
        nearest();
        nearestNearZero();
        exactly();
        justAboveTheMiddle();
        leastNumbers();
        range();
        rangeOfFloats();
        zeros();
        put();
        order();
        Check.finish();
    }

    private static void kinds() {
        Check.holds("KINDS: 0 BYTE, 1 SHORT, 2 CHAR, 3 INT, 4 LONG, 5 FLOAT, 6 DOUBLE");
        LaneMachine m = new LaneMachine();
        Check.due("no kind below", m.memory(-1, 1), -1);
        Check.due("no kind above", m.memory(7, 1), -1);
        long v = 65793 + (1L << 40);
        long[] want = {1, 257, 257, 65793, v, Check.f(0x1p40 + 0x1p17), Check.d(v)};
        for (int kind = 0; kind <= 6; kind++) {
            m.memory(kind, 1);
            m.poke(kind, 0, v);
            Check.due("kind " + kind, m.peek(kind, 0), want[kind]);
        }
    }

    private static void wholeKinds() {
        Check.holds("whole numbers of 8, 16, 16, 32, 64 bits, with a sign, but CHAR without one");
        LaneMachine m = new LaneMachine();
        for (int kind = 0; kind < 5; kind++) {
            long least = Bench.LEAST[kind];
            long most = Bench.MOST[kind];
            m.memory(kind, 4);
            m.poke(kind, 0, least);
            m.poke(kind, 1, most);
            m.poke(kind, 2, least - 1);
            m.poke(kind, 3, most + 1);
            Check.elements("kind " + kind, m, kind, least, most, most, least);
        }
    }

    private static void realKinds() {
        Check.holds("the finite numbers of 32 and 64 bits (IEEE 754; 0 and -0 are two)");
        double[] floats = {MOST_FLOAT, -MOST_FLOAT, LEAST_FLOAT, -LEAST_FLOAT, Float.MIN_NORMAL,
            Float.MIN_NORMAL - LEAST_FLOAT, 0, -0.0};
        double[] doubles = {Double.MAX_VALUE, -Double.MAX_VALUE, Double.MIN_VALUE, -Double.MIN_VALUE,
            Double.MIN_NORMAL, Double.MIN_NORMAL - Double.MIN_VALUE, 0, -0.0};
        LaneMachine m = Bench.floats('f', floats);
        Bench.addReals(m, 'd', doubles);
        for (int i = 0; i < 8; i++) {
            Check.due("FLOAT " + floats[i], m.peek(0, i), Check.f(floats[i]));
            Check.due("DOUBLE " + doubles[i], m.peek(1, i), Check.d(doubles[i]));
        }
        m = Bench.floats('d', Bench.reals(-0.0));
        m.keep(0);
        m.poke(0, 0, 0);
        Check.due("0 and -0 are two", m.differs(0, -1), 4);
    }

    private static void bits() {
        Check.holds("BITS: a whole one itself; of a FLOAT its 32 bits as an int, of a DOUBLE its 64 bits");
        LaneMachine m = Bench.floats('f', Bench.reals(-0.0, -MOST_FLOAT, -LEAST_FLOAT, MOST_FLOAT));
        Check.elements("BITS of FLOATS", m, 0, -0x80000000L, -0x800001L, -0x7fffffffL, 0x7f7fffffL);
        m = Bench.floats('d', Bench.reals(-0.0, -Double.MAX_VALUE, -Double.MIN_VALUE, Double.MAX_VALUE));
        Check.elements("BITS of DOUBLES", m, 0, Long.MIN_VALUE, -0x10000000000001L, Long.MIN_VALUE + 1,
                0x7fefffffffffffffL);
        m = Bench.wholes("bl", Bench.of(-128, 127), Bench.of(Long.MIN_VALUE, Long.MAX_VALUE));
        Check.elements("BITS of BYTES", m, 0, -128, 127);
        Check.elements("BITS of LONGS", m, 1, Long.MIN_VALUE, Long.MAX_VALUE);
    }

    private static void lowBits() {
        Check.holds("LOW BITS: the number of that kind that is the same modulo 2 to the width");
        LaneMachine m = new LaneMachine();
        for (int kind = 0; kind < 5; kind++) {
            long most = Bench.MOST[kind];
            long round = Bench.WIDTH[kind] == 64 ? 0 : 1L << Bench.WIDTH[kind];
            m.memory(kind, 6);
            long[] wide = {most + round, most - round, most + 1 + round, 1 - round, Long.MAX_VALUE, Long.MIN_VALUE};
            for (int i = 0; i < 6; i++) {
                m.poke(kind, i, wide[i]);
            }
            long all = kind == 2 ? most : kind == 4 ? most : -1;
            long half = kind == 4 ? Long.MIN_VALUE : 0;
            Check.elements("kind " + kind, m, kind, most, most, Bench.LEAST[kind], 1, all, half);
        }
    }

    private static void nearest() {
        Check.holds("NEAREST: of two as near the one whose last bit is 0");
        long[] near = {16777215, 16777217, 16777218, 16777219, 33554431, (1L << 40) + (1 << 16),
            (1L << 40) + (1 << 16) + 1, (1L << 40) + 3 * (1 << 16), (1L << 40) + 3 * (1 << 16) - 1, -16777217,
            -16777219, Long.MAX_VALUE, Long.MIN_VALUE};
        double[] want = {16777215, 16777216, 16777218, 16777220, 33554432, 0x1p40, 0x1p40 + 0x1p17, 0x1p40 + 0x1p18,
            0x1p40 + 0x1p17, -16777216, -16777220, 0x1p63, -0x1p63};
        LaneMachine m = new LaneMachine();
        Bench.add(m, 'f', near);
        for (int i = 0; i < near.length; i++) {
            Check.due("FLOAT of " + near[i], m.peek(0, i), Check.f(want[i]));
        }
        long[] far = {(1L << 53) - 1, (1L << 53) + 1, (1L << 53) + 3, (1L << 54) - 1, (1L << 62) + 512,
            (1L << 62) + 513, Long.MAX_VALUE - 512, Long.MAX_VALUE - 511, Long.MAX_VALUE, Long.MIN_VALUE,
            Long.MIN_VALUE + 512, Long.MIN_VALUE + 513};
        double[] wide = {0x1p53 - 1, 0x1p53, 0x1p53 + 4, 0x1p54, 0x1p62, 0x1p62 + 1024, 0x1p63 - 1024, 0x1p63, 0x1p63,
            -0x1p63, -0x1p63, -0x1p63 + 1024};
        Bench.add(m, 'd', far);
        for (int i = 0; i < far.length; i++) {
            Check.due("DOUBLE of " + far[i], m.peek(1, i), Check.d(wide[i]));
        }
    }

    /** Where numbers are as far from each other as 0 and the least one. */
    private static void nearestNearZero() {
        Check.holds("NEAREST: rounded to the nearest number, the least ones and 0 too");
        double least = Double.MIN_VALUE;
        LaneMachine m = Bench.floats('d',
                Bench.reals(least, 3 * least, -least, 0x1.0000000000001p-500, 0x1.fffffffffffffp-501,
                        0x1.fffffffffffffp-900, least, 0x1p-1022),
                Bench.reals(2, 2, 2, 0x1p575, 0x1p575, 0x1p123, Double.MAX_VALUE, 0x1.fffffffffffffp0));
        Bench.makes(m, "div v0,v0,v1", 0, Check.d(2 * least), Check.d(-0.0), 1, 0,
                Check.d(Double.MIN_NORMAL), 0, Check.d(Double.MIN_NORMAL / 0x1.fffffffffffffp0));
        double small = LEAST_FLOAT;
        m = Bench.floats('f',
                Bench.reals(small, 3 * small, -small, 0x1.000002p-60, 0x1.fffffep-61, 0x1.fffffep-100),
                Bench.reals(0.5, 0.5, 0.5, 0x1p-90, 0x1p-90, 0x1p-27));
        Bench.makes(m, "mul v0,v0,v1", 0, 2, Check.f(-0.0), 1, 0, Check.f(Float.MIN_NORMAL));
        m = Bench.floats('d', Bench.reals(0x1p-149, 0x1p-150, 0x1.0000000000001p-150, -0x1.8p-149, Double.MIN_VALUE));
        Bench.add(m, 'f', 9, 9, 9, 9, 9);
        Bench.run(m, "cast v1,v0");
        Check.lanes("cast", m, 1, 1, 0, 1, Check.f(-0x1p-148), 0);
    }

    private static void exactly() {
        Check.holds("A result of a REAL kind is worked out exactly, then NEAREST");
        LaneMachine m = Bench.floats('d',
                Bench.reals(1, 1, 1, 1, 0x1p1000, 0x1p1000, 0x1p60, 0x1p60),
                Bench.reals(0x1p-53, 0x1.0000000000001p-53, -0x1p-54, -0x1.0000000000001p-54, 0x1p-1074, -0x1p-1074,
                        127, 129));
        Bench.makes(m, "add v0,v0,v1", Check.d(1), Check.d(0x1.0000000000001p0), Check.d(1),
                Check.d(0x1.fffffffffffffp-1), Check.d(0x1p1000), Check.d(0x1p1000), Check.d(0x1p60),
                Check.d(0x1p60 + 256));
        Bench.makes(m, "sub v0,v0,v1", Check.d(0x1.fffffffffffffp-1), Check.d(0x1.fffffffffffffp-1), Check.d(1),
                Check.d(1), Check.d(0x1p1000), Check.d(0x1p1000), Check.d(0x1p60 - 128), Check.d(0x1p60 - 128));
        m = Bench.floats('f',
                Bench.reals(1, 1, 0x1p30, 0x1.000002p0, 0x1.fffffep0),
                Bench.reals(0x1p-24, 0x1.000002p-24, 0x1p-149, 0x1.000002p0, 0x1.fffffep0));
        Bench.makes(m, "add v0,v0,v1", Check.f(1), Check.f(0x1.000002p0), Check.f(0x1p30), Check.f(0x1.000002p1),
                Check.f(0x1.fffffep1));
        Bench.makes(m, "mul v0,v0,v1", Check.f(0x1p-24), Check.f(0x1.000002p-24), Check.f(0x1p-119),
                Check.f(0x1.000004p0), Check.f(0x1.fffffcp1));
        m = Bench.floats('d', Bench.reals(1, 2, 0x1.fffffffffffffp0, 10, 0x1.0000000000001p0),
                Bench.reals(3, 3, 0x1.0000000000001p0, 0x1.fffffffffffffp0, 0x1.0000000000001p0));
        Bench.makes(m, "div v0,v0,v1", Check.d(1.0 / 3), Check.d(2.0 / 3), Check.d(0x1.ffffffffffffdp0),
                Check.d(10 / 0x1.fffffffffffffp0), Check.d(1));
        Bench.makes(m, "mul v0,v0,v1", Check.d(3), Check.d(6), Check.d(2), Check.d(10 * 0x1.fffffffffffffp0),
                Check.d(0x1.0000000000002p0));
    }

    /** Results so little above the middle of two numbers that only their last bits tell. */
    private static void justAboveTheMiddle() {
        Check.holds("A result is worked out exactly, then NEAREST: however little it is above the middle of two");
        double[] x = {0x1.5b0f1c65fb8a3p+0, 0x1.8f2f35d09dd29p+0, 0x1.ac738a5be6d6bp+0, 0x1.5b483cc3136d9p+0,
            (0x1p40 + 1) * Double.MIN_VALUE, (0x1p40 + 3) * Double.MIN_VALUE, 0x1.fffffffffffffp0, 0x1.921fb54442d18p1};
        double[] y = {0x1.80f2f062cbb0bp+0, 0x1.fd03c64000000p+0, 0x1.372ba18000000p+0, 0x1.b480000000000p+0, 0.5, 0.5,
            0x1.fffffffffffffp0, 0x1.5bf0a8b145769p1};
        LaneMachine m = Bench.floats('d', x, y);
        Bench.makes(m, "mul v0,v0,v1", Check.d(0x1.04f00262f6221p+1), Check.d(0x1.8cdb6057dd553p+1),
                Check.d(0x1.0464b1646353dp+1), Check.d(0x1.281255cd4f503p+1), 1L << 39, (1L << 39) + 2,
                Check.d(0x1.ffffffffffffep1), Check.d(0x1.921fb54442d18p1 * 0x1.5bf0a8b145769p1));
        m = Bench.floats('d', Bench.reals(0x1.c95388f353249p-508, 0x1.7cf16ef60456fp-508, 497 * 0x1p-1074),
                Bench.reals(0x1.d7210076ce2efp+558, 0x1.c6a5377330bdbp+558, 2));
        Bench.makes(m, "div v0,v0,v1", 249, 215, 248);
        m = Bench.floats('d', Bench.reals(0x1.0825c67e84707p+0, 0x1.9ed2affd21f09p+0, 0x1.cb8f1c938c68dp+0,
                0x1.0000000000003p0, 0x1.0000000000001p1, 0x1.0000000000003p1));
        Bench.makes(m, "sqrt v0,v0", Check.d(0x1.040ab82539a2bp+0), Check.d(0x1.45e011473e443p+0),
                Check.d(0x1.56ff4b98a62b1p+0), Check.d(0x1.0000000000001p0), Check.d(Math.sqrt(0x1.0000000000001p1)),
                Check.d(Math.sqrt(0x1.0000000000003p1)));
    }

    private static void leastNumbers() {
        Check.holds("A result is worked out exactly, then NEAREST: of the least numbers, too");
        double least = Double.MIN_VALUE;
        LaneMachine m = Bench.floats('d', Bench.reals(least, least, 1, least, -least, least),
                Bench.reals(1, 2, least, 0.5, 3, 0x1p1023));
        Bench.makes(m, "mul v0,v0,v1", 1, 2, 1, 0, Check.d(-3 * least), Check.d(0x1p-51));
        Bench.makes(m, "mset m0,57;div v0,v0,v1 ?m0", 1, 1, Check.d(1), 2, Check.d(-0.0), 0);
        Bench.makes(m, "add v0,v0,v1", Check.d(1), Check.d(2), Check.d(1), Check.d(0.5), Check.d(3), Check.d(0x1p1023));
        Bench.makes(m, "sub v0,v0,v0", 0, 0, 0, 0, 0, 0);
        m = Bench.floats('d', Bench.reals(least, -least, Double.MIN_NORMAL, 3 * least),
                Bench.reals(least, least, -least, -2 * least));
        Bench.makes(m, "add v0,v0,v1", 2, 0, Check.d(Double.MIN_NORMAL - least), 1);
        Bench.makes(m, "div v0,v0,v1", Check.d(1), Check.d(-1), Check.d(-0x1p52), Check.d(-1.5));
        m = Bench.floats('f', Bench.reals(0x1p-149, 0x1p-149, 1), Bench.reals(1, 3, 0x1p-149));
        Bench.makes(m, "mul v0,v0,v1", 1, 3, 1);
        Bench.makes(m, "mset m0,3;div v0,v0,v1 ?m0", 1, 0, Check.f(1));
    }

    /** That a and b by the word are out of RANGE. */
    private static void infinite(char kind, double a, String word, double b) {
        LaneMachine m = Bench.floats(kind, Bench.reals(1, a, 1), Bench.reals(1, b, 1));
        Check.due(word + " of " + a + " and " + b, Bench.run(m, word + " v0,v0,v1"), 6);
        Check.fault(word, m, 6, 4, 1);
        Check.due("the lane stays", m.lane(0, 1), m.peek(0, 1));
    }

    private static void range() {
        Check.holds("if it were infinite: RANGE");
        double most = Double.MAX_VALUE;
        LaneMachine m = Bench.floats('d', Bench.reals(most, -most, most), Bench.reals(0x1.fffffffffffffp969,
                -0x1.fffffffffffffp969, -most));
        Bench.makes(m, "add v0,v0,v1", Check.d(most), Check.d(-most), 0);
        infinite('d', most, "add", 0x1p970);
        infinite('d', -most, "add", -0x1p970);
        infinite('d', most, "add", most);
        infinite('d', most, "sub", -0x1p970);
        infinite('d', most, "mul", 0x1.0000000000001p0);
        infinite('d', -most, "mul", 2);
        infinite('d', most, "mul", most);
        infinite('d', 0x1p512, "mul", 0x1p512);
        infinite('d', most, "div", 0x1.fffffffffffffp-1);
        infinite('d', -most, "div", 0x1p-1074);
        m = Bench.floats('d', Bench.reals(0x1p511, 0x1.fffffffffffffp1022), Bench.reals(0x1p512, 2));
        Bench.makes(m, "mul v0,v0,v1", Check.d(0x1p1023), Check.d(most));
    }

    private static void rangeOfFloats() {
        Check.holds("if it were infinite: RANGE (of FLOATS)");
        LaneMachine m = Bench.floats('f', Bench.reals(MOST_FLOAT, -MOST_FLOAT),
                Bench.reals(0x1.fffffep102, -0x1.fffffep102));
        Bench.makes(m, "add v0,v0,v1", Check.f(MOST_FLOAT), Check.f(-MOST_FLOAT));
        infinite('f', MOST_FLOAT, "add", 0x1p103);
        infinite('f', MOST_FLOAT, "sub", -0x1p103);
        infinite('f', MOST_FLOAT, "mul", 0x1.000002p0);
        infinite('f', 1, "div", 0x1p-128);
        infinite('f', -MOST_FLOAT, "div", 0x1p-149);
        m = Bench.floats('f', Bench.reals(1), Bench.reals(0x1p-127));
        Bench.makes(m, "div v0,v0,v1", Check.f(0x1p127));
        m = Bench.floats('d', Bench.reals(0x1.fffffefffffffp127, -0x1.fffffefffffffp127));
        Bench.add(m, 'f', 0, 0);
        Check.due("cast", Bench.run(m, "cast v1,v0"), 0);
        Check.lanes("cast to the greatest", m, 1, Check.f(MOST_FLOAT), Check.f(-MOST_FLOAT));
        for (double d : new double[] {0x1.ffffffp127, -0x1.ffffffp127, 0x1p128, Double.MAX_VALUE}) {
            m = Bench.floats('d', Bench.reals(1, d));
            Bench.add(m, 'f', 0, 0);
            Check.due("cast of " + d, Bench.run(m, "cast v1,v0"), 6);
            Check.fault("cast", m, 6, 4, 1);
            Check.lanes("cast", m, 1, Check.f(1), 0);
        }
    }

    private static void zeros() {
        Check.holds("signs of 0 as IEEE 754 has them");
        double[] x = {0, 0, -0.0, -0.0, 5, -5, 0, -0.0};
        double[] y = {0, -0.0, 0, -0.0, -5, 5, 5, -5};
        for (char kind : new char[] {'f', 'd'}) {
            long n = kind == 'f' ? Check.f(-0.0) : Check.d(-0.0);
            long five = kind == 'f' ? Check.f(5) : Check.d(5);
            long ten = kind == 'f' ? Check.f(10) : Check.d(10);
            LaneMachine m = Bench.floats(kind, x, y);
            Bench.makes(m, "add v0,v0,v1", 0, 0, 0, n, 0, 0, five, five + n);
            Bench.makes(m, "sub v0,v0,v1", 0, 0, n, 0, ten, ten + n, five + n, five);
            Bench.makes(m, "mset m0,207;mul v0,v0,v1 ?m0", 0, n, n, 0, five, five + n, 0, 0);
            Bench.makes(m, "mset m0,192;div v0,v0,v1 ?m0", 0, 0, n, n, five, five + n, 0, 0);
            Bench.makes(m, "mset m0,192;rem v0,v0,v1 ?m0", 0, 0, n, n, five, five + n, 0, n);
            Bench.makes(m, "mset m0,48;rem v0,v0,v1 ?m0", 0, 0, n, n, 0, n, 0, n);
        }
        LaneMachine m = Bench.floats('d', Bench.reals(0x1p-1000, -0x1p-1000), Bench.reals(-0x1p-1000, -0x1p-1000));
        Bench.makes(m, "mul v0,v0,v1", Check.d(-0.0), 0);
    }

    private static void put() {
        Check.holds("To PUT a long as a kind: LOW BITS, or NEAREST");
        long v = -(1L << 53) - 3;
        long[] want = {-3, -3, 65533, -3, v, Check.f(-0x1p53), Check.d(-0x1p53 - 4)};
        for (int kind = 0; kind < 7; kind++) {
            LaneMachine m = new LaneMachine();
            m.memory(kind, 1);
            m.poke(0, 0, v);
            Check.due("poke", m.peek(0, 0), want[kind]);
            Check.program(m, "set v0," + Bench.KINDS.charAt(kind) + ",1;fill v0,s0;put v0,0,s1;put v0,0,s0;iota v0,s0");
            m.scalar(0, v);
            m.run(2);
            Check.due("fill", m.lane(0, 0), want[kind]);
            m.run(2);
            Check.due("put", m.lane(0, 0), want[kind]);
            m.run(1);
            Check.due("iota", m.lane(0, 0), want[kind]);
        }
    }

    private static void order() {
        double[] x = {-0.0, 0, 0, -0.0, -1, 1, -2, -1};
        double[] y = {0, -0.0, 0, -0.0, 1, -1, -1, -2};
        for (char kind : new char[] {'f', 'd'}) {
            LaneMachine m = Bench.floats(kind, x, y);
            long n = kind == 'f' ? Check.f(-0.0) : Check.d(-0.0);
            long one = kind == 'f' ? Check.f(1) : Check.d(1);
            long two = kind == 'f' ? Check.f(2) : Check.d(2);
            Check.holds("ORDER: by value; -0 is below 0 where it says IN ORDER");
            Bench.makes(m, "min v0,v0,v1", n, n, 0, n, one + n, one + n, two + n, two + n);
            Bench.makes(m, "max v0,v0,v1", 0, 0, 0, n, one, one, one + n, one + n);
            Bench.makes(m, "sort v0,v0", two + n, one + n, one + n, n, n, 0, 0, one);
            Check.holds("ORDER: -0 is the same as 0 in eq, ne, lt, le, gt, ge");
            String[] words = {"eq", "ne", "lt", "le", "gt", "ge"};
            int[] want = {0b00001111, 0b11110000, 0b01010000, 0b01011111, 0b10100000, 0b10101111};
            for (int k = 0; k < 6; k++) {
                Check.due(words[k], Bench.run(m, words[k] + " m0,v0,v1"), 0);
                Check.due(words[k], m.mask(0), want[k]);
            }
        }
        Check.holds("ORDER: by value (of whole numbers, the least and the greatest too)");
        LaneMachine m = Bench.wholes("ll", Bench.of(Long.MIN_VALUE, Long.MAX_VALUE, -1), Bench.of(Long.MAX_VALUE,
                Long.MIN_VALUE, 0));
        Bench.makes(m, "min v0,v0,v1", Long.MIN_VALUE, Long.MIN_VALUE, -1);
        Bench.makes(m, "max v0,v0,v1", Long.MAX_VALUE, Long.MAX_VALUE, 0);
        Bench.run(m, "lt m0,v0,v1;gt m1,v0,v1");
        Check.due("lt", m.mask(0), 0b101);
        Check.due("gt", m.mask(1), 0b010);
        Bench.makes(m, "sort v0,v0", Long.MIN_VALUE, -1, Long.MAX_VALUE);
        m = Bench.wholes("cc", Bench.of(65535, 1), Bench.of(0, 32768));
        Bench.makes(m, "max v0,v0,v1", 65535, 32768);
    }
}
