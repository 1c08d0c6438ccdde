/** "Terms", THE MACHINE: a test for each sentence that names a boundary. */
public final class MachineBoundsTest {
    public static void main(String[] args) {
        registers();
        masks();
        scalars();
        arrays();
        atFirst();
        begin();
        beginStays();
        beginWithoutProgram();
        everyBegin();
        Check.finish();
    }

    private static void registers() {
        Check.holds("REGISTERS V0 .. V7 are NONE, or have a kind, a LENGTH 1 .. 32 and as many LANES 0, 1, ..");
        LaneMachine m = Check.with("set v0,b,1;set v7,d,32");
        Check.due("V0 is NONE", m.register(0, 0), -1);
        Check.due("V0 has no LENGTH", m.register(0, 1), 0);
        Check.throwsIndex("V0 has no lane", () -> m.lane(0, 0));
        Check.due("run", m.run(2), 0);
        Check.due("V0's kind", m.register(0, 0), 0);
        Check.due("V7's kind", m.register(7, 0), 6);
        Check.lanes("least LENGTH", m, 0, 0);
        Check.lanes("greatest LENGTH", m, 7, new long[32]);
        Check.throwsIndex("lane 1 of 1", () -> m.lane(0, 1));
        Check.throwsIndex("lane 32 of 32", () -> m.lane(7, 32));
        for (int v = 1; v < 7; v++) {
            Check.due("others are NONE", m.register(v, 0), -1);
        }
    }

    private static void masks() {
        Check.holds("MASKS M0 .. M3 have 32 bits (bit i is for lane i)");
        StringBuilder text = new StringBuilder("set v0,b,32;set v1,b,32;mov s0,1;fill v1,s0;");
        for (int i = 0; i < 32; i += 31) {
            text.append("mset m3,").append(1L << i).append(";add v0,v0,v1 ?m3;");
        }
        LaneMachine m = Check.with(text + "mset m0,4294967295;mset m3,4294967294");
        Check.due("run", m.run(100), 0);
        long[] want = new long[32];
        want[0] = 1;
        want[31] = 1;
        Check.lanes("bit 0 and bit 31", m, 0, want);
        Check.due("all of M0", m.mask(0), -1);
        Check.due("all but one of M3", m.mask(3), -2);
        Check.due("M1", m.mask(1), 0);
    }

    private static void scalars() {
        Check.holds("SCALARS S0 .. S7 are longs");
        LaneMachine m = new LaneMachine();
        m.scalar(0, Long.MIN_VALUE);
        m.scalar(7, Long.MAX_VALUE);
        Check.due("S0", m.scalarOf(0), Long.MIN_VALUE);
        Check.due("S7", m.scalarOf(7), Long.MAX_VALUE);
        Check.due("S6", m.scalarOf(6), 0);
    }

    private static void arrays() {
        Check.holds("ARRAYS A0 .. A7 are NONE, or have a kind and 0 .. 64 elements");
        LaneMachine m = new LaneMachine();
        for (int a = 0; a < 7; a++) {
            Check.due("memory", m.memory(a, 0), a);
        }
        Check.due("A7", m.memory(0, 64), 7);
        Check.due("no A8", m.memory(0, 0), -2);
        Check.due("elements", m.array(7, 1), 64);
        Check.due("none", m.array(0, 1), 0);
        Check.due("one without elements is not NONE", m.array(0, 0), 0);
        Check.due("65", m.resize(7, 65), -1);
        Check.due("-1", m.resize(7, -1), -1);
        Check.holds("400 elements in all at most");
        for (int a = 0; a < 5; a++) {
            Check.due("64 more", m.resize(a, 64), 0);
        }
        Check.due("384", m.count(3), 384);
        Check.due("401", m.resize(5, 17), -2);
        Check.due("nothing changed", m.array(5, 1), 0);
        Check.due("400", m.resize(5, 16), 0);
        Check.due("in all", m.count(3), 400);
        Check.due("one more", m.resize(6, 1), -2);
        Check.due("one less makes room", m.resize(0, 63), 64);
        Check.due("for one", m.resize(6, 1), 0);
        Check.due("in all", m.count(3), 400);
    }

    private static void atFirst() {
        Check.holds("At first all registers and arrays are NONE, all else is 0; there is no program (0 instructions)");
        LaneMachine m = new LaneMachine();
        for (int i = 0; i < 8; i++) {
            Check.due("register", m.register(i, 0), -1);
            Check.due("array", m.array(i, 0), -1);
            Check.due("scalar", m.scalarOf(i), 0);
            Check.due("mask", m.mask(i), 0);
        }
        for (int what = 0; what < 12; what++) {
            Check.due("count " + what, m.count(what), what == 7 ? 1 : 0);
        }
        Check.noFault("at first", m);
        Check.throwsIndex("no instruction", () -> m.code(0, 0));
        Check.due("no instruction", m.flow(0, 0), -1);
        Check.due("no place for a break point", m.stop(0, true), false);
        Check.due("no STEP", m.trace(0, 0), -1);
        for (int k = 0; k < 4; k++) {
            Check.due("nothing is kept", m.differs(k, k), -1);
        }
    }

    /** A machine in which nothing is as at first; it ends with a FAULT. */
    private static LaneMachine used() {
        LaneMachine m = Check.with("set v0,b,3;set v7,d,2;mset m0,7;mset m3,4294967295;mov s7,4;call f;end;"
                + "f: add v0,v0,v7");
        m.memory(3, 2);
        m.poke(0, 1, 9);
        m.stop(6, true);
        m.watch(0, 0, true);
        m.keep(2);
        m.feed(0, 0, 0, 0, 0);
        Check.due("run", m.run(100), 1);
        Check.due("a call is open", m.count(6), 1);
        return m;
    }

    private static void begin() {
        LaneMachine m = used();
        m.begin();
        Check.holds("BEGIN: registers are NONE, masks 0");
        for (int i = 0; i < 8; i++) {
            Check.due("register", m.register(i, 0), -1);
            Check.due("LENGTH", m.register(i, 1), 0);
            Check.due("mask", m.mask(i), 0);
        }
        Check.holds("BEGIN: PC (the instruction that is next) is 0, no calls are open");
        Check.due("PC", m.count(5), 0);
        Check.due("calls", m.count(6), 0);
        Check.holds("BEGIN: STEPS and LANES DONE are 0, it has not ended");
        Check.due("STEPS", m.count(1), 0);
        Check.due("LANES DONE", m.count(2), 0);
        Check.due("ended", m.count(7), 0);
        Check.holds("BEGIN: there is no fault, and the LIST OF STEPS is empty");
        Check.noFault("begun", m);
        Check.due("list", m.count(4), 0);
        Check.due("trace", m.trace(0, 0), -1);
        Check.due("back", m.back(), -1);
        LaneMachine ended = Check.with("end");
        ended.run(5);
        ended.begin();
        Check.due("not ended any more", ended.count(7), 0);
        Check.due("it goes on", ended.run(5), 0);
        Check.due("from the first one", ended.count(1), 1);
    }

    private static void beginStays() {
        LaneMachine m = used();
        m.begin();
        Check.holds("BEGIN: Scalars, arrays, break points, watches and what is kept stay");
        Check.due("scalar", m.scalarOf(7), 4);
        Check.due("element", m.peek(0, 1), 9);
        Check.due("break points", m.count(8), 1);
        Check.due("the same one", m.stop(6, true), false);
        Check.due("watches", m.count(9), 1);
        Check.due("the same one", m.watch(0, 0, true), false);
        Check.due("kept", m.differs(2, 2), 0);
        Check.due("as it was kept: without s7", m.differs(2, -1), 3);
        Check.due("program", m.count(0), 8);
        Check.due("labels", m.count(10), 1);
        Check.due("tape", m.count(11), 20);
    }

    private static void beginWithoutProgram() {
        Check.holds("BEGIN: it has not ended (with 0 instructions it has)");
        LaneMachine m = new LaneMachine();
        m.begin();
        Check.due("a new one", m.count(7), 1);
        Check.due("run", m.run(9), 0);
        Check.due("an empty text", Check.assemble(m, "a:\n;"), 0);
        m.begin();
        Check.due("an empty text", m.count(7), 1);
        Check.program(m, "end");
        Check.due("one instruction", m.count(7), 0);
        m.begin();
        Check.due("one instruction", m.count(7), 0);
    }

    private static void everyBegin() {
        Check.holds("assemble, slim, restore: BEGIN");
        for (int k = 0; k < 4; k++) {
            LaneMachine m = Check.with("set v3,b,2;mset m2,3;mov s5,8;mov s5,9;call f;f: mov s1,1;add v0,v0,v0");
            m.slim();
            if (k == 1) {
                m.restore();
            }
            m.stop(0, true);
            Check.due("run", m.run(99), 1);
            if (k == 0) {
                Check.assemble(m, "end");
            } else if (k == 1) {
                Check.due("slim", m.slim(), 1);
            } else if (k == 2) {
                Check.due("slim, with 0", m.slim(), 0);
            } else {
                Check.due("restore", m.restore(), true);
            }
            Check.due("register", m.register(3, 0), -1);
            Check.due("mask", m.mask(2), 0);
            Check.due("scalar", m.scalarOf(5), 9);
            for (int what : new int[] {1, 2, 4, 5, 6, 7, 8}) {
                Check.due("count " + what, m.count(what), 0);
            }
            Check.noFault("begun", m);
        }
    }
}
