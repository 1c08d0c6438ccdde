/** INSTRUCTIONS 26 to 45: a test for each sentence that names a boundary of their results. */
public final class MoveBoundsTest {
    private static final long N = Check.d(-0.0);

    public static void main(String[] args) {
        gather();
        scatter();
        load();
        store();
        fillAndIota();
        pack();
        spread();
        shuf();
        rot();
        revAndZip();
        sort();
        scan();
        half();
        halfOutOfRange();
        sum();
        leastAndMost();
        getAndPut();
        Check.finish();
    }

    private static long[] of(long... numbers) {
        return numbers;
    }

    private static double[] reals(double... numbers) {
        return numbers;
    }

    private static void gather() {
        Check.holds("gather: lane i is the element at w's lane i; BOUNDS (there is no such element)");
        LaneMachine m = Bench.wholes("bib", of(1, 2, 3), of(3, 0, 3), of(50, 60, 70, 80));
        Bench.makes(m, "gather v0,a2,v1", 80, 50, 80);
        for (long none : of(4, -1, Integer.MAX_VALUE, Integer.MIN_VALUE)) {
            m = Bench.wholes("bib", of(1, 2, 3), of(3, none, 0), of(50, 60, 70, 80));
            Bench.faults(m, "gather v0,a2,v1", 4, 1, 80, 2, 3);
            Bench.makes(m, "mset m0,5;gather v0,a2,v1 ?m0", 80, 2, 50);
        }
        m = Bench.wholes("bi", of(1), of(0));
        m.memory(0, 0);
        Bench.faults(m, "gather v0,a2,v1", 4, 0, 1);
        Check.holds("gather and load see elements as they are");
        m = Bench.wholes("ii", of(1, 0, 1), of(7, 8, 9));
        Bench.makes(m, "gather v0,a0,v0", 0, 1, 0);
    }

    private static void scatter() {
        Check.holds("scatter: the element at w's lane i becomes lane i; lanes are done one by one, from 0 on");
        LaneMachine m = Bench.wholes("lil", of(1, 2, 3, 4), of(2, 0, 2, 0), of(50, 60, 70));
        Check.due("run", Bench.run(m, "scatter v0,a2,v1"), 0);
        Check.elements("the later lane wins", m, 2, 4, 60, 3);
        Check.due("LANES DONE: those that are ON", m.trace(0, 1), 4);
        for (long none : of(3, -1, Integer.MAX_VALUE, Integer.MIN_VALUE)) {
            m = Bench.wholes("lil", of(1, 2, 3, 4), of(2, 0, none, 1), of(50, 60, 70));
            Bench.faults(m, "scatter v0,a2,v1", 4, 2, 1, 2, 3, 4);
            Check.elements("Elements ahead of that lane are done", m, 2, 2, 60, 1);
            Check.due("run", Bench.run(m, "mset m0,11;scatter v0,a2,v1 ?m0"), 0);
            Check.elements("not ON", m, 2, 2, 4, 1);
        }
        Check.holds("scatter: registers stay, also if it is w");
        m = Bench.wholes("i", of(1, 2, 0));
        Bench.makes(m, "scatter v0,a0,v0", 1, 2, 0);
        Check.elements("w itself", m, 0, 0, 1, 2);
    }

    private static void load() {
        Check.holds("load: likewise with the place s + i (exactly)");
        LaneMachine m = Bench.wholes("hh", of(1, 2, 3), of(50, 60, 70, 80));
        m.scalar(0, 1);
        Bench.makes(m, "load v0,a1,s0", 60, 70, 80);
        m.scalar(0, 2);
        Bench.faults(m, "load v0,a1,s0", 4, 2, 70, 80, 3);
        m.scalar(0, 4);
        Bench.faults(m, "load v0,a1,s0", 4, 0, 1, 2, 3);
        m.scalar(0, -1);
        Bench.faults(m, "load v0,a1,s0", 4, 0, 1, 2, 3);
        Bench.makes(m, "mset m0,6;load v0,a1,s0 ?m0", 1, 50, 60);
        m.scalar(0, -2);
        Bench.faults(m, "mset m0,6;load v0,a1,s0 ?m0", 4, 1, 1, 2, 3);
        for (long far : of(Long.MAX_VALUE, Long.MAX_VALUE - 1, Long.MIN_VALUE, 1L << 32, -1L << 32)) {
            m.scalar(0, far);
            Bench.faults(m, "load v0,a1,s0", 4, 0, 1, 2, 3);
            Bench.faults(m, "mset m0,4;load v0,a1,s0 ?m0", 4, 2, 1, 2, 3);
        }
    }

    private static void store() {
        Check.holds("store: likewise with the place s + i (exactly)");
        LaneMachine m = Bench.wholes("hh", of(1, 2, 3), of(50, 60, 70, 80));
        m.scalar(0, 1);
        Check.due("run", Bench.run(m, "store v0,a1,s0"), 0);
        Check.elements("the last three", m, 1, 50, 1, 2, 3);
        m.scalar(0, 2);
        Bench.faults(m, "store v0,a1,s0", 4, 2, 1, 2, 3);
        Check.elements("Elements ahead of that lane are done", m, 1, 50, 1, 1, 2);
        m.scalar(0, -1);
        Check.due("run", Bench.run(m, "mset m0,6;store v0,a1,s0 ?m0"), 0);
        Check.elements("lane 0 is not ON", m, 1, 2, 3, 1, 2);
        for (long far : of(-1, 4, Long.MAX_VALUE, Long.MIN_VALUE, 1L << 32)) {
            m.scalar(0, far);
            Bench.faults(m, "store v0,a1,s0", 4, 0, 1, 2, 3);
            Check.elements("nothing", m, 1, 2, 3, 1, 2);
        }
        m.scalar(0, Long.MAX_VALUE);
        Bench.faults(m, "mset m0,6;store v0,a1,s0 ?m0", 4, 1, 1, 2, 3);
        Check.elements("it does not go round", m, 1, 2, 3, 1, 2);
        m = new LaneMachine();
        m.memory(3, 64);
        Check.program(m, "set v0,i,32;mov s0,32;mov s1,1;fill v0,s1;store v0,a0,s0;load v0,a0,s0");
        Check.due("the greatest array and LENGTH", m.run(100), 0);
        Check.due("element 31", m.peek(0, 31), 0);
        Check.due("element 32", m.peek(0, 32), 1);
        Check.due("element 63", m.peek(0, 63), 1);
    }

    private static void fillAndIota() {
        Check.holds("fill: s is PUT");
        for (int kind = 0; kind < 7; kind++) {
            LaneMachine m = Bench.wholes("" + Bench.KINDS.charAt(kind), of(1, 1, 1));
            for (long s : of(Long.MIN_VALUE, Long.MAX_VALUE, 0, -1, 65536 + 200)) {
                long put = Model.put(kind, s);
                m.scalar(0, s);
                Bench.makes(m, "fill v0,s0", put, put, put);
                Bench.makes(m, "mset m0,4294967290;fill v0,s0 ?m0", Model.put(kind, 1), put, Model.put(kind, 1));
                Check.due("LANES DONE", m.trace(0, 1), 1);
            }
            Check.holds("iota: s + i (a long that goes round) is PUT");
            m.scalar(0, Long.MAX_VALUE - 1);
            Bench.makes(m, "iota v0,s0", Model.put(kind, Long.MAX_VALUE - 1), Model.put(kind, Long.MAX_VALUE),
                    Model.put(kind, Long.MIN_VALUE));
            m.scalar(0, -1);
            Bench.makes(m, "iota v0,s0", Model.put(kind, -1), 0, Model.put(kind, 1));
        }
        LaneMachine m = Bench.wholes("b", of(1, 1, 1));
        m.scalar(0, 126);
        Bench.makes(m, "iota v0,s0", 126, 127, -128);
        Bench.makes(m, "mset m0,4;iota v0,s0 ?m0", 1, 1, -128);
    }

    private static void pack() {
        Check.holds("pack: the lanes of x whose bit is 1, in order, become V's lanes 0, 1, ..; others of V stay");
        long[] x = {1, 2, 3, 4};
        LaneMachine m = Bench.wholes("ii", of(7, 7, 7, 7), x);
        int[][] masks = {{0, 0}, {8, 1}, {10, 2}, {15, 4}, {-1, 4}, {-16, 0}, {-2, 3}};
        long[][] want = {{7, 7, 7, 7}, {4, 7, 7, 7}, {2, 4, 7, 7}, x, x, {7, 7, 7, 7}, {2, 3, 4, 7}};
        for (int k = 0; k < masks.length; k++) {
            String lines = "mset m1," + (masks[k][0] & 0xffffffffL) + ";pack v0,m1,v1";
            Bench.makes(m, lines, want[k]);
            Check.holds("pack: LANES DONE: as many as bits are 1 below the LENGTH");
            Check.due(lines, m.trace(0, 1), masks[k][1]);
        }
        m = Check.with("set v0,b,32;set v1,b,32;iota v1,s0;mset m1,2147483648;pack v0,m1,v1");
        m.run(100);
        Check.due("bit 31", m.lane(0, 0), 31);
        Check.due("LANES DONE", m.trace(0, 1), 1);
    }

    private static void spread() {
        Check.holds("spread: V's lanes whose bit is 1 become x's lanes 0, 1, .. in order; others stay");
        long[] x = {1, 2, 3, 4};
        LaneMachine m = Bench.wholes("ii", of(7, 7, 7, 7), x);
        int[][] masks = {{0, 0}, {8, 1}, {10, 2}, {15, 4}, {-1, 4}, {-16, 0}, {-2, 3}};
        long[][] want = {{7, 7, 7, 7}, {7, 7, 7, 1}, {7, 1, 7, 2}, x, x, {7, 7, 7, 7}, {7, 1, 2, 3}};
        for (int k = 0; k < masks.length; k++) {
            String lines = "mset m1," + (masks[k][0] & 0xffffffffL) + ";spread v0,m1,v1";
            Bench.makes(m, lines, want[k]);
            Check.holds("spread: LANES DONE: as many as bits are 1 below the LENGTH");
            Check.due(lines, m.trace(0, 1), masks[k][1]);
        }
        m = Check.with("set v0,b,32;set v1,b,32;mov s0,5;iota v1,s0;mset m1,2147483648;spread v0,m1,v1");
        m.run(100);
        Check.due("bit 31", m.lane(0, 31), 5);
        Check.due("bit 30", m.lane(0, 30), 0);
    }

    private static void shuf() {
        Check.holds("shuf: lane i is x's at w's lane i; below 0, or not below the LENGTH: BOUNDS");
        LaneMachine m = Bench.wholes("lli", of(7, 7, 7), of(1, 2, 3), of(2, 0, 2));
        Bench.makes(m, "shuf v0,v1,v2", 3, 1, 3);
        for (long none : of(3, -1, Integer.MAX_VALUE, Integer.MIN_VALUE)) {
            m = Bench.wholes("lli", of(7, 7, 7), of(1, 2, 3), of(2, none, 0));
            Bench.faults(m, "shuf v0,v1,v2", 4, 1, 3, 7, 7);
            Bench.makes(m, "mset m0,5;shuf v0,v1,v2 ?m0", 3, 7, 1);
        }
        m = Bench.wholes("lli", of(7), of(1), of(1));
        Bench.faults(m, "shuf v0,v1,v2", 4, 0, 7);
        m = Check.with("set v0,i,32;set v1,i,32;iota v1,s0;rev v1,v1;shuf v0,v1,v1");
        Check.due("of 32", m.run(100), 0);
        Check.due("the last", m.lane(0, 31), 31);
        Check.due("the first", m.lane(0, 0), 0);
    }

    private static void rot() {
        Check.holds("rot: lane i is x's at (i + s) modulo the LENGTH (0 or more, exactly)");
        for (int length = 1; length <= 32; length++) {
            LaneMachine m = Check.with("set v0,b," + length + ";iota v0,s7;rot v0,v0,s0");
            long[] by = {0, 1, -1, length, -length, length - 1, Long.MAX_VALUE, Long.MIN_VALUE, Long.MIN_VALUE + 31};
            for (long s : by) {
                m.scalar(0, s);
                m.begin();
                m.run(100);
                int first = (int) Math.floorMod(s, (long) length);
                Check.due("lane 0 of " + length + " by " + s, m.lane(0, 0), first);
                Check.due("the last of " + length + " by " + s, m.lane(0, length - 1), (first + length - 1) % length);
            }
        }
        LaneMachine m = Bench.wholes("ii", of(7, 7, 7), of(1, 2, 3));
        m.scalar(0, Long.MAX_VALUE);
        Bench.makes(m, "rot v0,v1,s0", 2, 3, 1);
        m.scalar(0, Long.MIN_VALUE);
        Bench.makes(m, "rot v0,v1,s0", 2, 3, 1);
        Bench.makes(m, "mset m0,2;rot v0,v1,s0 ?m0", 7, 3, 7);
    }

    private static void revAndZip() {
        Check.holds("rev: lane i is x's at LENGTH - 1 - i");
        LaneMachine m = Bench.wholes("bb", of(7), of(1));
        Bench.makes(m, "rev v0,v1", 1);
        m = Bench.wholes("bb", of(7, 7), of(1, 2));
        Bench.makes(m, "rev v0,v1", 2, 1);
        m = Bench.wholes("bb", of(7, 7, 7), of(1, 2, 3));
        Bench.makes(m, "rev v0,v1", 3, 2, 1);
        Bench.makes(m, "mset m0,4294967292;rev v0,v1 ?m0", 7, 7, 1);
        Check.holds("zip: lane i is x's at i / 2 for i even, else y's at i / 2 (cut)");
        m = Bench.wholes("bbb", of(7), of(1), of(5));
        Bench.makes(m, "zip v0,v1,v2", 1);
        m = Bench.wholes("bbb", of(7, 7), of(1, 2), of(5, 6));
        Bench.makes(m, "zip v0,v1,v2", 1, 5);
        m = Bench.wholes("bbb", of(7, 7, 7), of(1, 2, 3), of(5, 6, 8));
        Bench.makes(m, "zip v0,v1,v2", 1, 5, 2);
        Bench.makes(m, "mset m0,4294967294;zip v0,v1,v2 ?m0", 7, 5, 2);
        m = Check.with("set v0,b,32;set v1,b,32;iota v1,s0;zip v0,v1,v1");
        m.run(100);
        Check.due("of 32", m.lane(0, 31), 15);
    }

    private static void sort() {
        Check.holds("sort: x's lanes, the least first, IN ORDER");
        for (int kind = 0; kind < 5; kind++) {
            long least = Bench.LEAST[kind];
            long most = Bench.MOST[kind];
            LaneMachine m = Bench.wholes(("" + Bench.KINDS.charAt(kind)).repeat(2), new long[5],
                    of(most, 5, least, most, least + 1));
            Bench.makes(m, "sort v0,v1", least, least + 1, 5, most, most);
            Bench.makes(m, "sort v1,v1;sort v0,v1", least, least + 1, 5, most, most);
            Bench.makes(m, "sort v1,v1;rev v1,v1;sort v0,v1", least, least + 1, 5, most, most);
            Check.due("LANES DONE: the LENGTH", m.trace(0, 1), 5);
        }
        double most = Double.MAX_VALUE;
        LaneMachine m = Bench.floats('d', reals(0, -0.0, most, -most, 0, -0.0, Double.MIN_VALUE, -Double.MIN_VALUE));
        Bench.makes(m, "sort v0,v0", Check.d(-most), N + 1, N, N, 0, 0, 1, Check.d(most));
        m = Bench.floats('f', reals(0, -0.0, -1, -2, 0x1p-149));
        Bench.makes(m, "sort v0,v0", Check.f(-2), Check.f(-1), Check.f(-0.0), 0, 1);
        m = Bench.wholes("b", of(5));
        Bench.makes(m, "sort v0,v0", 5);
        m = Check.with("set v0,b,32;iota v0,s0;rev v0,v0;sort v0,v0");
        m.run(100);
        for (int i = 0; i < 32; i++) {
            Check.due("of 32", m.lane(0, i), i);
        }
    }

    private static void scan() {
        Check.holds("scan: the sum of x's lanes that are ON up to i, each result as add has it; others stay");
        LaneMachine m = Bench.wholes("bb", of(7, 7, 7, 7), of(100, 100, 100, 100));
        Bench.makes(m, "scan v0,v1", 100, -56, 44, -112);
        Bench.makes(m, "mset m0,4294967290;scan v0,v1 ?m0", 7, 100, 7, -56);
        Bench.makes(m, "mset m0,4294967280;scan v0,v1 ?m0", 7, 7, 7, 7);
        Bench.makes(m, "mset m0,8;scan v0,v1 ?m0", 7, 7, 7, 100);
        Check.holds("scan: the first of them as it is");
        m = Bench.floats('d', reals(-0.0, -0.0, 0, -0.0));
        Bench.makes(m, "scan v0,v0", N, N, 0, 0);
        Bench.makes(m, "mset m0,10;scan v0,v0 ?m0", N, N, 0, N);
        m = Bench.floats('d', reals(-0.0));
        Bench.makes(m, "scan v0,v0", N);
        Check.holds("scan: from the left");
        m = Bench.floats('f', reals(0x1p24, 1, 1, -0x1p24), reals(1, 1, 0x1p24, -0x1p24));
        Bench.makes(m, "scan v0,v0", Check.f(0x1p24), Check.f(0x1p24), Check.f(0x1p24), 0);
        Bench.makes(m, "scan v0,v1", Check.f(1), Check.f(2), Check.f(0x1p24 + 2), Check.f(2));
        Check.holds("scan: RANGE; lanes ahead of that lane are done");
        double most = Double.MAX_VALUE;
        m = Bench.floats('d', reals(7, 7, 7, 7), reals(most, -1, most, -most));
        Bench.faults(m, "scan v0,v1", 6, 2, Check.d(most), Check.d(most), Check.d(7), Check.d(7));
        Bench.makes(m, "mset m0,11;scan v0,v1 ?m0", Check.d(most), Check.d(most), Check.d(7), 0);
    }

    private static void half() {
        Check.holds("half: as long as there are n > 1 numbers; V's lane 0, its others stay");
        LaneMachine m = Bench.wholes("ii", of(7), of(5));
        Bench.makes(m, "half v0,v1", 5);
        m = Bench.wholes("ii", of(7, 7), of(5, 6));
        Bench.makes(m, "half v0,v1", 11, 7);
        m = Bench.wholes("bb", of(7, 7, 7), of(100, 100, 100));
        Bench.makes(m, "half v0,v1", 44, 7, 7);
        Check.due("LANES DONE", m.trace(0, 1), 1);
        m = Check.with("set v0,i,32;set v1,i,32;iota v1,s0;half v0,v1");
        m.run(100);
        Check.due("of 32", m.lane(0, 0), 496);
        Check.due("others", m.lane(0, 1), 0);
        Check.holds("half: h = (n + 1) / 2 (cut), number i becomes itself and number i + h, and h are left");
        double e = 0x1p24;
        m = Bench.floats('f', reals(7, 7, 7, 7, 7), reals(e, 1, 1, -e, 1));
        // (e - e), (1 + 1), 1: then (0 + 1), 2: then 3.
        Bench.makes(m, "half v0,v1", Check.f(3), Check.f(7), Check.f(7), Check.f(7), Check.f(7));
        m = Bench.floats('f', reals(7, 7, 7), reals(e, -e, 1));
        // (e + 1) is e, -e: then 0.
        Bench.makes(m, "half v0,v1", 0, Check.f(7), Check.f(7));
        m = Bench.floats('f', reals(7, 7, 7), reals(e, 1, -e));
        Bench.makes(m, "half v0,v1", Check.f(1), Check.f(7), Check.f(7));
        m = Bench.floats('d', reals(-0.0));
        Bench.makes(m, "half v0,v0", N);
        m = Bench.floats('d', reals(-0.0, -0.0, -0.0));
        Bench.makes(m, "half v0,v0", N, N, N);
    }

    private static void halfOutOfRange() {
        Check.holds("half: RANGE at the i where it came; V stays");
        double most = Double.MAX_VALUE;
        long seven = Check.d(7);
        LaneMachine m = Bench.floats('d', reals(7, 7, 7, 7), reals(1, most, 1, most));
        Bench.faults(m, "half v0,v1", 6, 1, seven, seven, seven, seven);
        m = Bench.floats('d', reals(7, 7, 7, 7), reals(most, 1, most, 1));
        Bench.faults(m, "half v0,v1", 6, 0, seven, seven, seven, seven);
        m = Bench.floats('d', reals(7, 7, 7, 7), reals(most, most, 1, 1));
        Bench.faults(m, "half v0,v1", 6, 0, seven, seven, seven, seven);
        m = Bench.floats('d', reals(most, 1, most, 1));
        Bench.faults(m, "half v0,v0", 6, 0, Check.d(most), Check.d(1), Check.d(most), Check.d(1));
        m = Bench.floats('d', reals(7, 7, 7, 7), reals(most, most, -most, -most));
        Bench.makes(m, "half v0,v1", 0, seven, seven, seven);
    }

    private static void sum() {
        Check.holds("sum: s is the sum (a long that goes round) of its lanes that are ON");
        LaneMachine m = Bench.wholes("l", of(Long.MAX_VALUE, 1, -1, Long.MIN_VALUE));
        long[][] sums = {{15, -1}, {3, Long.MIN_VALUE}, {4, -1}, {12, Long.MAX_VALUE}, {9, -1}, {0, 0},
            {0xfffffff0L, 0}};
        for (long[] want : sums) {
            m.scalar(3, 77);
            Check.due("run", Bench.run(m, "mset m0," + want[0] + ";sum s3,v0 ?m0"), 0);
            Check.due("sum of " + want[0], m.scalarOf(3), want[1]);
            Check.due("LANES DONE", m.trace(0, 1), 0);
        }
        m = Bench.wholes("ii", new long[] {1, 2, 3}, new long[] {40, 50, 60});
        Check.due("run", Bench.run(m, "rev v0,v1;sum s1,v0;sum s2,v1;least s3,v1;most s4,v0"), 0);
        Check.due("of V0", m.scalarOf(1), 150);
        Bench.run(m, "rev v1,v1;sum s1,v0;rev v1,v1;least s2,v0;rev v1,v1;most s3,v0");
        Check.due("of V0 behind one of V1", m.scalarOf(1), 6);
        Check.due("least", m.scalarOf(2), 1);
        Check.due("most", m.scalarOf(3), 3);
        m = Bench.wholes("iii", new long[] {1, 2, 3}, new long[] {4}, new long[] {5});
        Bench.run(m, "rev v1,v2;sum s1,v0;rev v2,v1;least s2,v0;rev v1,v1;most s3,v0");
        Check.due("behind one of another LENGTH", m.scalarOf(1), 6);
        Check.due("least", m.scalarOf(2), 1);
        Check.due("most", m.scalarOf(3), 3);
        m = Check.with("set v0,b,32;mov s0,-128;fill v0,s0;sum s1,v0;set v0,c,32;mov s0,-1;fill v0,s0;sum s2,v0");
        m.run(100);
        Check.due("of 32 BYTES", m.scalarOf(1), -4096);
        Check.due("of 32 CHARS", m.scalarOf(2), 65535 * 32);
    }

    private static void leastAndMost() {
        Check.holds("least, most: the least, the greatest of its lanes that are ON");
        LaneMachine m = Bench.wholes("l", of(Long.MAX_VALUE, 1, -1, Long.MIN_VALUE));
        long[][] want = {{15, Long.MIN_VALUE, Long.MAX_VALUE}, {7, -1, Long.MAX_VALUE}, {14, Long.MIN_VALUE, 1},
            {1, Long.MAX_VALUE, Long.MAX_VALUE}, {8, Long.MIN_VALUE, Long.MIN_VALUE}, {6, -1, 1}};
        for (long[] w : want) {
            Check.due("run", Bench.run(m, "mset m0," + w[0] + ";least s0,v0 ?m0;most s1,v0 ?m0"), 0);
            Check.due("least of " + w[0], m.scalarOf(0), w[1]);
            Check.due("most of " + w[0], m.scalarOf(1), w[2]);
        }
        Check.holds("the last two: s stays if none is");
        for (String none : new String[] {"0", "4294967280"}) {
            Bench.run(m, "mov s0,5;mov s1,6;mset m0," + none + ";least s0,v0 ?m0;most s1,v0 ?m0");
            Check.due("least of none", m.scalarOf(0), 5);
            Check.due("most of none", m.scalarOf(1), 6);
        }
        m = Check.with("set v0,c,1;least s0,v0;mov s1,-1;put v0,0,s1;most s2,v0;least s3,v0");
        m.run(100);
        Check.due("least of one", m.scalarOf(0), 0);
        Check.due("most of one", m.scalarOf(2), 65535);
        Check.due("least of one", m.scalarOf(3), 65535);
    }

    private static void getAndPut() {
        Check.holds("get: s is the BITS of lane N; N not below the LENGTH: BOUNDS");
        LaneMachine m = Bench.floats('f', reals(-0.0, 1, -1));
        Check.due("run", Bench.run(m, "get s0,v0,0;get s1,v0,2;get s2,v0,3"), 4);
        Check.fault("lane 3 of 3", m, 4, 4, 3);
        Check.due("-0", m.scalarOf(0), Check.f(-0.0));
        Check.due("the last", m.scalarOf(1), Check.f(-1));
        Check.due("s stays", m.scalarOf(2), 0);
        for (int n : new int[] {1, 31}) {
            m = Check.with("set v0,b,1;mov s0,5;get s0,v0," + n);
            Check.due("beyond 1", m.run(9), 4);
            Check.fault("beyond 1", m, 4, 2, n);
            Check.due("s stays", m.scalarOf(0), 5);
        }
        Check.holds("put: s is PUT into lane N; N not below the LENGTH: BOUNDS");
        m = Bench.wholes("b", of(1, 1, 1));
        m.scalar(0, 128);
        Bench.makes(m, "put v0,0,s0", -128, 1, 1);
        Bench.makes(m, "put v0,2,s0", 1, 1, -128);
        Bench.faults(m, "put v0,3,s0", 4, 3, 1, 1, 1);
        Bench.faults(m, "put v0,31,s0", 4, 31, 1, 1, 1);
        m = Check.with("set v0,l,32;mov s0,7;put v0,31,s0;get s1,v0,31");
        Check.due("of 32", m.run(9), 0);
        Check.due("of 32", m.scalarOf(1), 7);
    }
}
