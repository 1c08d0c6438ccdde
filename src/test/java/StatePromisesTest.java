/** Promises 13 to 23 and 27 to 29: a test for each sentence that names a boundary. */
public final class StatePromisesTest {
    public static void main(String[] args) {
        memory();
        memoryIsRefused();
        memoryIsFull();
        free();
        resize();
        resizeIsRefused();
        resizeIsFull();
        poke();
        peek();
        array();
        scalar();
        scalarOf();
        register();
        lane();
        mask();
        keep();
        differsOfNone();
        differsFirst();
        differsOfBits();
        counts();
        countOfOther();
        Check.finish();
    }

    private static void memory() {
        Check.holds("memory: An array of a kind with n elements, all 0: its number, the least that is NONE");
        LaneMachine m = new LaneMachine();
        for (int kind = 0; kind < 7; kind++) {
            int n = kind == 0 ? 64 : kind;
            Check.due("its number", m.memory(kind, n), kind);
            Check.due("its kind", m.array(kind, 0), kind);
            Check.elements("all 0", m, kind, new long[n]);
        }
        Check.due("none at all", m.memory(6, 0), 7);
        m.poke(0, 63, 5);
        m.free(5);
        m.free(0);
        m.free(3);
        Check.due("the least that is NONE", m.memory(0, 64), 0);
        Check.elements("all 0 again", m, 0, new long[64]);
        Check.due("the next", m.memory(2, 1), 3);
        Check.due("its kind", m.array(3, 0), 2);
        Check.due("the next", m.memory(2, 1), 5);
    }

    private static void memoryIsRefused() {
        Check.holds("memory: -1 if there is no such kind, or n is not 0 .. 64");
        LaneMachine m = new LaneMachine();
        int[][] none = {{-1, 1}, {7, 1}, {0, -1}, {0, 65}, {6, 65}, {-1, -1}, {7, 65}, {Integer.MAX_VALUE, 0},
            {Integer.MIN_VALUE, 0}, {0, Integer.MAX_VALUE}, {0, Integer.MIN_VALUE}};
        for (int[] n : none) {
            Check.due("memory(" + n[0] + ", " + n[1] + ")", m.memory(n[0], n[1]), -1);
            Check.due("nothing came", m.array(0, 0), -1);
        }
        Check.due("0", m.memory(0, 0), 0);
        Check.due("64", m.memory(6, 64), 1);
    }

    private static void memoryIsFull() {
        Check.holds("memory: -2 if there are 8, or more than 400 elements would be");
        LaneMachine m = new LaneMachine();
        for (int a = 0; a < 6; a++) {
            m.memory(0, 64);
        }
        Check.due("401", m.memory(0, 17), -2);
        Check.due("448", m.memory(0, 64), -2);
        Check.due("nothing came", m.array(6, 0), -1);
        Check.due("400", m.memory(0, 16), 6);
        Check.due("401", m.memory(0, 1), -2);
        Check.due("400 still", m.memory(0, 0), 7);
        Check.due("there are 8", m.memory(0, 0), -2);
        Check.due("-1 comes first", m.memory(7, 0), -1);
        Check.due("-1 comes first", m.memory(0, 65), -1);
        m.free(0);
        Check.due("room again", m.memory(0, 64), 0);
        m = new LaneMachine();
        for (int a = 0; a < 8; a++) {
            m.memory(0, 0);
        }
        Check.due("8 without elements", m.memory(0, 0), -2);
        m.free(7);
        Check.due("room again", m.memory(0, 0), 7);
    }

    private static void free() {
        Check.holds("free: Array m is NONE: true; false if it is so, or there is none such");
        LaneMachine m = new LaneMachine();
        for (int a : new int[] {-1, 0, 7, 8, Integer.MAX_VALUE, Integer.MIN_VALUE}) {
            Check.due("free(" + a + ")", m.free(a), false);
        }
        m.memory(3, 5);
        m.memory(3, 0);
        for (int a = 0; a < 2; a++) {
            Check.due("free", m.free(a), true);
            Check.due("kind", m.array(a, 0), -1);
            Check.due("elements", m.array(a, 1), 0);
            Check.due("free again", m.free(a), false);
        }
        Check.due("elements", m.count(3), 0);
        Check.throwsIndex("no element", () -> m.peek(0, 0));
    }

    private static void resize() {
        Check.holds("resize: Array m has n elements: the first ones as they were, others 0: how many it had");
        LaneMachine m = new LaneMachine();
        m.memory(6, 3);
        for (int i = 0; i < 3; i++) {
            m.poke(0, i, i + 1);
        }
        Check.due("as many", m.resize(0, 3), 3);
        Check.elements("as they were", m, 0, Check.d(1), Check.d(2), Check.d(3));
        Check.due("fewer", m.resize(0, 2), 3);
        Check.elements("the first ones", m, 0, Check.d(1), Check.d(2));
        Check.due("more", m.resize(0, 4), 2);
        Check.elements("others 0", m, 0, Check.d(1), Check.d(2), 0, 0);
        Check.due("most", m.resize(0, 64), 4);
        Check.due("the last", m.peek(0, 63), 0);
        Check.due("none", m.resize(0, 0), 64);
        Check.due("kind", m.array(0, 0), 6);
        Check.due("elements", m.count(3), 0);
        Check.due("one", m.resize(0, 1), 0);
        Check.elements("0", m, 0, 0);
    }

    private static void resizeIsRefused() {
        Check.holds("resize: -1 if it is NONE, there is none such, or n is not 0 .. 64");
        LaneMachine m = new LaneMachine();
        m.memory(3, 2);
        m.poke(0, 1, 7);
        int[][] none = {{1, 1}, {7, 1}, {8, 1}, {-1, 1}, {0, -1}, {0, 65}, {0, Integer.MAX_VALUE},
            {0, Integer.MIN_VALUE}, {Integer.MAX_VALUE, 1}, {Integer.MIN_VALUE, 1}};
        for (int[] n : none) {
            Check.due("resize(" + n[0] + ", " + n[1] + ")", m.resize(n[0], n[1]), -1);
            Check.elements("nothing changes", m, 0, 0, 7);
        }
        m.free(0);
        Check.due("NONE by now", m.resize(0, 1), -1);
    }

    private static void resizeIsFull() {
        Check.holds("resize: -2 if more than 400 elements would be");
        LaneMachine m = new LaneMachine();
        for (int a = 0; a < 6; a++) {
            m.memory(0, 64);
        }
        m.memory(0, 10);
        Check.due("401", m.resize(6, 17), -2);
        Check.due("448", m.resize(6, 64), -2);
        Check.due("nothing changes", m.array(6, 1), 10);
        Check.due("400", m.resize(6, 16), 10);
        Check.due("400 again", m.resize(6, 16), 16);
        Check.due("as many", m.resize(0, 64), 64);
        Check.due("401", m.resize(6, 17), -2);
        Check.due("-1 comes first", m.resize(6, 65), -1);
        Check.due("-1 comes first", m.resize(7, 1), -1);
        Check.due("fewer", m.resize(6, 15), 16);
        Check.due("400", m.resize(6, 16), 15);
    }

    private static void poke() {
        Check.holds("poke: v is PUT as element i of array m: true; false if there is none such");
        for (int kind = 0; kind < 7; kind++) {
            LaneMachine m = new LaneMachine();
            m.memory(kind, 2);
            for (long v : new long[] {0, -1, Long.MAX_VALUE, Long.MIN_VALUE, 65535 + (1L << 33), (1L << 53) + 1}) {
                Check.due("poke", m.poke(0, 1, v), true);
                Check.elements("poke of " + v, m, 0, 0, Model.put(kind, v));
            }
        }
        LaneMachine m = new LaneMachine();
        m.memory(0, 2);
        m.memory(0, 0);
        m.memory(0, 64);
        int[][] none = {{0, -1}, {0, 2}, {1, 0}, {3, 0}, {7, 0}, {8, 0}, {-1, 0}, {2, 64}, {0, Integer.MAX_VALUE},
            {0, Integer.MIN_VALUE}, {Integer.MAX_VALUE, 0}, {Integer.MIN_VALUE, 0}};
        for (int[] n : none) {
            Check.due("poke(" + n[0] + ", " + n[1] + ")", m.poke(n[0], n[1], 5), false);
        }
        Check.elements("nothing changes", m, 0, 0, 0);
        Check.due("the last", m.poke(2, 63, 5), true);
        Check.due("the last", m.peek(2, 63), 5);
        m.resize(2, 63);
        Check.due("not there any more", m.poke(2, 63, 5), false);
    }

    private static void peek() {
        Check.holds("peek: BITS of element i of array m. Throws IndexOutOfBoundsException if there is none such");
        LaneMachine m = new LaneMachine();
        m.memory(5, 2);
        m.memory(0, 0);
        m.memory(4, 64);
        m.poke(0, 1, -2);
        m.poke(2, 63, Long.MIN_VALUE);
        Check.due("FLOAT", m.peek(0, 1), Check.f(-2));
        Check.due("0", m.peek(0, 0), 0);
        Check.due("the last", m.peek(2, 63), Long.MIN_VALUE);
        int[][] none = {{0, -1}, {0, 2}, {1, 0}, {3, 0}, {7, 0}, {8, 0}, {-1, 0}, {2, 64}, {0, Integer.MAX_VALUE},
            {0, Integer.MIN_VALUE}, {Integer.MAX_VALUE, 0}, {Integer.MIN_VALUE, 0}};
        for (int[] n : none) {
            Check.throwsIndex("peek(" + n[0] + ", " + n[1] + ")", () -> m.peek(n[0], n[1]));
        }
    }

    private static void array() {
        Check.holds("array: its kind (-1 for NONE), how many elements (0 for NONE)");
        LaneMachine m = new LaneMachine();
        m.memory(6, 64);
        m.memory(0, 0);
        int[][] want = {{6, 64}, {0, 0}, {-1, 0}};
        for (int a = 0; a < 8; a++) {
            Check.due("kind", m.array(a, 0), want[Math.min(a, 2)][0]);
            Check.due("elements", m.array(a, 1), want[Math.min(a, 2)][1]);
            Check.holds("array: -2 if there is no such array, or what");
            Check.due("what 2", m.array(a, 2), -2);
            Check.due("what -1", m.array(a, -1), -2);
        }
        for (int a : new int[] {-1, 8, Integer.MAX_VALUE, Integer.MIN_VALUE}) {
            Check.due("no such array", m.array(a, 0), -2);
            Check.due("no such array", m.array(a, 1), -2);
        }
    }

    private static void scalar() {
        Check.holds("scalar: Scalar s becomes v: true; false if there is none such");
        LaneMachine m = new LaneMachine();
        for (int s = 0; s < 8; s++) {
            Check.due("scalar", m.scalar(s, Long.MIN_VALUE + s), true);
        }
        for (int s : new int[] {-1, 8, Integer.MAX_VALUE, Integer.MIN_VALUE}) {
            Check.due("scalar(" + s + ")", m.scalar(s, 5), false);
        }
        for (int s = 0; s < 8; s++) {
            Check.due("scalarOf", m.scalarOf(s), Long.MIN_VALUE + s);
        }
        m.scalar(7, Long.MAX_VALUE);
        Check.due("most", m.scalarOf(7), Long.MAX_VALUE);
    }

    private static void scalarOf() {
        Check.holds("scalarOf: Throws IndexOutOfBoundsException if there is none such");
        LaneMachine m = new LaneMachine();
        for (int s : new int[] {-1, 8, Integer.MAX_VALUE, Integer.MIN_VALUE}) {
            Check.throwsIndex("scalarOf(" + s + ")", () -> m.scalarOf(s));
        }
        Check.due("the first", m.scalarOf(0), 0);
        Check.due("the last", m.scalarOf(7), 0);
    }

    private static void register() {
        Check.holds("register: its kind (-1 for NONE), its LENGTH (0 for NONE)");
        LaneMachine m = Check.with("set v0,b,1;set v7,d,32");
        m.run(9);
        int[][] want = {{0, 1}, {-1, 0}, {6, 32}};
        for (int v = 0; v < 8; v++) {
            int k = v == 0 ? 0 : v == 7 ? 2 : 1;
            Check.due("kind", m.register(v, 0), want[k][0]);
            Check.due("LENGTH", m.register(v, 1), want[k][1]);
            Check.holds("register: -2 if there is no such register, or what");
            Check.due("what 2", m.register(v, 2), -2);
            Check.due("what -1", m.register(v, -1), -2);
        }
        for (int v : new int[] {-1, 8, Integer.MAX_VALUE, Integer.MIN_VALUE}) {
            Check.due("no such register", m.register(v, 0), -2);
            Check.due("no such register", m.register(v, 1), -2);
        }
    }

    private static void lane() {
        Check.holds("lane: BITS of lane i of register v. Throws IndexOutOfBoundsException if there is none such");
        LaneMachine m = Check.with("set v0,f,1;neg v0,v0;set v7,l,32;iota v7,s0");
        m.scalar(0, Long.MIN_VALUE);
        m.run(9);
        Check.due("-0", m.lane(0, 0), Check.f(-0.0));
        Check.due("the first", m.lane(7, 0), Long.MIN_VALUE);
        Check.due("the last", m.lane(7, 31), Long.MIN_VALUE + 31);
        int[][] none = {{0, 1}, {0, -1}, {7, 32}, {7, -1}, {1, 0}, {8, 0}, {-1, 0}, {7, Integer.MAX_VALUE},
            {7, Integer.MIN_VALUE}, {Integer.MAX_VALUE, 0}, {Integer.MIN_VALUE, 0}};
        for (int[] n : none) {
            Check.throwsIndex("lane(" + n[0] + ", " + n[1] + ")", () -> m.lane(n[0], n[1]));
        }
    }

    private static void mask() {
        Check.holds("mask: Mask m as an int (bit 31 is the sign). 0 if there is none such");
        LaneMachine m = Check.with("mset m0,2147483648;mset m1,2147483647;mset m2,4294967295;mset m3,4294967294");
        m.run(9);
        int[] want = {Integer.MIN_VALUE, Integer.MAX_VALUE, -1, -2};
        for (int k = 0; k < 4; k++) {
            Check.due("mask", m.mask(k), want[k]);
        }
        for (int k : new int[] {-1, 4, 7, Integer.MAX_VALUE, Integer.MIN_VALUE}) {
            Check.due("none such", m.mask(k), 0);
        }
    }

    private static void keep() {
        Check.holds("keep: is kept as k (0 .. 3), in place of what was: true; false if there is no such k");
        LaneMachine m = new LaneMachine();
        for (int k : new int[] {-1, 4, Integer.MAX_VALUE, Integer.MIN_VALUE}) {
            Check.due("keep(" + k + ")", m.keep(k), false);
        }
        for (int k = 0; k < 4; k++) {
            m.scalar(0, k);
            Check.due("nothing was kept", m.differs(k, -1), -1);
            Check.due("keep", m.keep(k), true);
            Check.due("it is kept", m.differs(k, -1), 0);
        }
        for (int a = 0; a < 4; a++) {
            for (int b = 0; b < 4; b++) {
                Check.due("each on its own", m.differs(a, b), a == b ? 0 : 3);
            }
        }
        Check.due("in place of what was", m.keep(0), true);
        Check.due("as 3", m.differs(0, 3), 0);
        Check.due("others stay", m.differs(1, 3), 3);
    }

    private static void differsOfNone() {
        Check.holds("differs: -1 if there is none such, or nothing was kept as it");
        LaneMachine m = new LaneMachine();
        m.keep(3);
        for (int none : new int[] {0, 1, 2, 4, -2, Integer.MAX_VALUE, Integer.MIN_VALUE}) {
            Check.due("from now", m.differs(none, -1), -1);
            Check.due("now", m.differs(-1, none), -1);
            Check.due("of 3", m.differs(3, none), -1);
            Check.due("from 3", m.differs(none, 3), -1);
            Check.due("from itself", m.differs(none, none), -1);
        }
        Check.due("3 and now", m.differs(3, -1), 0);
        Check.due("now and now", m.differs(-1, -1), 0);
        Check.due("3 and 3", m.differs(3, 3), 0);
    }

    private static void differsFirst() {
        Check.holds("differs: the first that differs: 1 registers, 2 masks, 3 scalars, 4 arrays");
        String[] lines = {"set v7,b,1", "mset m3,1", "mov s7,1", "set v0,b,1", "mset m0,1", "mov s0,1"};
        int[] want = {1, 2, 3, 1, 2, 3};
        for (int k = 0; k < 6; k++) {
            LaneMachine m = Check.with(lines[k]);
            m.keep(0);
            m.run(1);
            Check.due(lines[k], m.differs(0, -1), want[k]);
            Check.due(lines[k], m.differs(-1, 0), want[k]);
            m.keep(1);
            m.memory(0, 0);
            Check.due("arrays are the last", m.differs(0, -1), want[k]);
            Check.due("arrays", m.differs(1, -1), 4);
        }
        LaneMachine m = Check.with("mov s0,1;mset m0,1;set v0,b,1");
        m.keep(0);
        m.run(1);
        Check.due("scalars", m.differs(0, -1), 3);
        m.run(1);
        Check.due("masks ahead of scalars", m.differs(0, -1), 2);
        m.run(1);
        Check.due("registers ahead of masks", m.differs(0, -1), 1);
        Check.holds("differs: of registers, masks, scalars and arrays alone");
        m = Check.with("jmp a;a: end");
        m.keep(0);
        m.run(1);
        m.watch(0, 0, true);
        m.stop(1, true);
        m.feed(0, 0, 0, 0, 0);
        Check.due("PC, STEPS, watches, break points, tape", m.differs(0, -1), 0);
    }

    private static void differsOfBits() {
        Check.holds("differs: 0 if they are the same (NONE, kinds, lengths and BITS)");
        LaneMachine m = Check.with("set v0,d,2;neg v0,v0;set v0,d,2;set v0,l,2;set v0,d,1;set v0,d,2");
        m.run(1);
        m.keep(0);
        int[] want = {1, 0, 1, 1, 0};
        for (int w : want) {
            m.run(1);
            Check.due("register", m.differs(0, -1), w);
        }
        m = new LaneMachine();
        m.keep(0);
        m.memory(3, 0);
        Check.due("NONE is not one without elements", m.differs(0, -1), 4);
        m.keep(0);
        m.free(0);
        m.memory(4, 0);
        Check.due("kinds", m.differs(0, -1), 4);
        m.resize(0, 64);
        m.keep(0);
        m.resize(0, 63);
        Check.due("lengths", m.differs(0, -1), 4);
        m.resize(0, 64);
        Check.due("the same again", m.differs(0, -1), 0);
        m.poke(0, 63, 1);
        Check.due("the last element", m.differs(0, -1), 4);
        m.poke(0, 63, 0);
        for (int a = 1; a < 8; a++) {
            m.memory(0, a == 7 ? 1 : 0);
        }
        m.keep(1);
        m.poke(7, 0, 1);
        Check.due("the last array", m.differs(1, -1), 4);
        Check.holds("differs: elements that were and are no more do not count");
        m = new LaneMachine();
        m.memory(0, 2);
        m.keep(0);
        m.poke(0, 1, 9);
        m.resize(0, 1);
        m.keep(1);
        m.resize(0, 2);
        Check.due("0 again", m.differs(0, -1), 0);
        m.resize(0, 1);
        Check.due("the same", m.differs(1, -1), 0);
    }

    private static void counts() {
        Check.holds("count: 0 instructions, 1 STEPS, 2 LANES DONE, 3 elements, 4 STEPS of the list, 5 PC, 6 calls, "
                + "7 ended, 8 break points, 9 watches, 10 LABELS, 11 bytes");
        LaneMachine m = Check.with("a:;c: set v0,b,3;call f;f: fill v0,s0;end");
        m.memory(0, 7);
        m.memory(1, 64);
        m.stop(3, true);
        m.watch(0, 63, true);
        m.watch(7, 0, true);
        m.feed(0, 0, 0, 0, 0);
        m.run(9);
        int[] want = {4, 3, 6, 71, 3, 3, 1, 0, 1, 2, 3, 20};
        for (int what = 0; what < 12; what++) {
            Check.due("count(" + what + ")", m.count(what), want[what]);
        }
        m.run(9);
        want = new int[] {4, 4, 6, 71, 4, 4, 1, 1, 1, 2, 3, 20};
        for (int what = 0; what < 12; what++) {
            Check.due("count(" + what + ")", m.count(what), want[what]);
        }
        Check.holds("count 4: STEPS of the list, 64 at most; 1: STEPS, all of them");
        m = Check.with("a: jmp a");
        m.run(65);
        Check.due("STEPS", m.count(1), 65);
        Check.due("list", m.count(4), 64);
    }

    private static void countOfOther() {
        Check.holds("count: -1 for another what");
        LaneMachine m = new LaneMachine();
        for (int what : new int[] {-1, 12, 13, Integer.MAX_VALUE, Integer.MIN_VALUE}) {
            Check.due("count(" + what + ")", m.count(what), -1);
        }
    }
}
