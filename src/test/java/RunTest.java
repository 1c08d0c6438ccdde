/** Promises 9 begin, 10 run, 11 back, 12 fault, 24 stop, 25 watch, 26 trace. */
public final class RunTest {
    private static final String FLOATS = "mov s0,576460752303423488;set v0,f,4;fill v0,s0;mul v0,v0,v0;mov s0,512;"
            + "set v1,f,4;fill v1,s0;mul v0,v0,v1;";

    public static void main(String[] args) {
        begin();
        run();
        ending();
        calls();
        stops();
        watches();
        back();
        listOfSteps();
        listBecomesEmpty();
        faults();
        faultsInPart();
        backBehindFaults();
        orderOfFaults();
        Check.finish();
    }

    private static void begin() {
        LaneMachine m = Check.with("set v0,b,3;mset m1,7;mov s0,4;call f;end;f: set v1,b,2;add v2,v0,v0");
        m.memory(3, 2);
        m.poke(0, 1, 9);
        m.keep(2);
        m.stop(3, true);
        m.watch(0, 0, true);
        m.run(100);
        m.run(100);
        Check.due("fault", m.fault(0), 1);
        m.begin();
        Check.due("registers", m.register(0, 0), -1);
        Check.due("masks", m.mask(1), 0);
        Check.due("scalars stay", m.scalarOf(0), 4);
        Check.due("arrays stay", m.peek(0, 1), 9);
        Check.due("no fault", m.fault(0), 0);
        Check.due("no place", m.fault(1), -1);
        Check.due("no lane", m.fault(2), -1);
        Check.due("steps", m.count(1), 0);
        Check.due("lanes done", m.count(2), 0);
        Check.due("list", m.count(4), 0);
        Check.due("PC", m.count(5), 0);
        Check.due("calls", m.count(6), 0);
        Check.due("ended", m.count(7), 0);
        Check.due("break points stay", m.count(8), 1);
        Check.due("watches stay", m.count(9), 1);
        Check.due("what is kept stays", m.differs(2, 2), 0);
    }

    private static void run() {
        LaneMachine m = Check.with("a: sadd s0,s0,s1;jmp a");
        m.scalar(1, 1);
        Check.throwsArgument("run(-1)", () -> m.run(-1));
        Check.throwsArgument("run(2001)", () -> m.run(2001));
        Check.due("run(0)", m.run(0), -1);
        Check.due("run(2000)", m.run(2000), -1);
        Check.due("steps", m.count(1), 2000);
        Check.due("scalar", m.scalarOf(0), 1000);
        Check.due("run(1)", m.run(1), -1);
        Check.due("PC", m.count(5), 1);
        LaneMachine empty = new LaneMachine();
        Check.due("run without a program", empty.run(0), 0);
        Check.throwsArgument("run(2001) without a program", () -> empty.run(2001));
    }

    private static void ending() {
        LaneMachine m = Check.with("mov s0,1;end;mov s0,2");
        Check.due("run to the end", m.run(2), 0);
        Check.due("ended", m.count(7), 1);
        Check.due("PC is behind end", m.count(5), 2);
        Check.due("end is a step", m.count(1), 2);
        Check.due("nothing more", m.run(5), 0);
        Check.due("nothing is done", m.count(1), 2);
        Check.due("back", m.back(), 1);
        Check.due("not ended", m.count(7), 0);
        Check.due("PC", m.count(5), 1);
        Check.program(m, "ret;mov s0,3");
        Check.due("ret ends", m.run(10), 0);
        Check.due("PC is behind ret", m.count(5), 1);
        Check.due("steps", m.count(1), 1);
        Check.program(m, "mov s0,7");
        Check.due("to the last one", m.run(1), 0);
        Check.due("PC", m.count(5), 1);
        Check.program(m, "jmp e;end;e:");
        Check.due("a jump to the end", m.run(1), 0);
        Check.due("PC", m.count(5), 2);
    }

    private static void calls() {
        LaneMachine m = Check.with("f: sadd s0,s0,s1;call f");
        m.scalar(1, 1);
        Check.due("run", m.run(2000), 7);
        Check.due("open", m.count(6), 16);
        Check.due("deep", m.scalarOf(0), 17);
        Check.due("fault place", m.fault(1), 1);
        Check.due("fault lane", m.fault(2), -1);
        Check.due("again", m.run(1), 7);
        Check.due("back", m.back(), 0);
        Check.due("back", m.back(), 1);
        Check.due("open", m.count(6), 15);
        Check.program(m, "call f;mov s2,1;call f;end;f: mov s3,1;ret");
        m.run(4);
        Check.due("it came back", m.count(5), 2);
        Check.due("open", m.count(6), 0);
        Check.due("ret is done", m.run(1), -1);
        Check.due("open", m.count(6), 1);
        // The second call took the first one's place; taken back, the ret leads to the first one's again.
        m.back();
        m.back();
        Check.due("ret is taken back", m.back(), 5);
        Check.due("open", m.count(6), 1);
        m.run(1);
        Check.due("it came back once more", m.count(5), 1);
        Check.program(m, "call f;f: end");
        m.run(1);
        Check.due("call alone", m.count(5), 1);
        Check.program(m, "jmp a;f: ret;a: call f");
        Check.due("a call at the end", m.run(10), 0);
        Check.due("its ret leads to the end", m.count(5), 3);
    }

    private static void stops() {
        LaneMachine m = Check.with("a: sadd s0,s0,s1;mov s2,3;jmp a");
        Check.due("stop(3)", m.stop(3, true), false);
        Check.due("stop(-1)", m.stop(-1, true), false);
        Check.due("stop off", m.stop(1, false), false);
        Check.due("stop on", m.stop(1, true), true);
        Check.due("stop on again", m.stop(1, true), false);
        Check.due("break points", m.count(8), 1);
        Check.due("run", m.run(10), -2);
        Check.due("PC", m.count(5), 1);
        Check.due("not for the first one", m.run(10), -2);
        Check.due("steps", m.count(1), 4);
        Check.due("steps come first", m.run(3), -1);
        Check.due("off", m.stop(1, false), true);
        m.stop(0, true);
        m.stop(2, true);
        Check.due("break points", m.count(8), 2);
        Check.due("run", m.run(10), -2);
        Check.due("PC", m.count(5), 2);
        m.back();
        Check.due("break points stay", m.count(8), 2);
        m.stop(2, false);
        Check.due("the first instruction's", m.run(10), -2);
        Check.due("PC", m.count(5), 0);
    }

    private static void watches() {
        LaneMachine m = Check.with("set v0,i,4;a: iota v0,s0;store v0,a0,s1;mov s5,1;store v0,a0,s1 ?m0;"
                + "scatter v0,a0,v1;jmp a");
        m.memory(3, 6);
        int[][] none = {{-1, 0}, {8, 0}, {0, -1}, {0, 64}};
        for (int[] n : none) {
            Check.due("watch none", m.watch(n[0], n[1], true), false);
        }
        Check.due("watch off", m.watch(0, 2, false), false);
        Check.due("watch on", m.watch(0, 2, true), true);
        Check.due("watch on again", m.watch(0, 2, true), false);
        Check.due("one that is not there", m.watch(7, 63, true), true);
        Check.due("watches", m.count(9), 2);
        Check.due("run", m.run(100), -3);
        Check.due("behind the store", m.count(5), 3);
        Check.due("element", m.peek(0, 2), 2);
        Check.due("the same BITS, then a FAULT", m.run(100), 1);
        Check.due("place", m.fault(1), 5);
        Check.due("off", m.watch(0, 2, false), true);
        Check.due("watches", m.count(9), 1);

        // Also by the only step of the list.
        m = Check.with("set v0,i,1;mov s0,1;iota v0,s0;store v0,a0,s1;end");
        m.memory(3, 1);
        m.watch(0, 0, true);
        m.run(3);
        m.scalar(5, 0);
        Check.due("changed by the first one", m.run(1), -3);
        // An element that is written twice and is as it was; then one that ends the program by a change.
        m = Check.with("set v0,i,3;set v1,i,3;mov s0,5;put v0,0,s0;scatter v0,a0,v1;mov s0,7;put v0,2,s0;"
                + "scatter v0,a0,v1");
        m.memory(3, 1);
        m.watch(0, 0, true);
        Check.due("0 at last", m.run(5), -1);
        Check.due("element", m.peek(0, 0), 0);
        Check.due("ended by it", m.run(10), 0);
        Check.due("element", m.peek(0, 0), 7);
        m.begin();
        m.scalar(0, 5);
        Check.due("changed in the middle", m.run(5), -3);
        // -0 and 0 are two: BITS count. And a FAULT comes ahead of -3.
        m = Check.with("set v0,d,2;neg v0,v0;store v0,a0,s0;store v0,a0,s1;mov s2,1");
        m.memory(6, 2);
        m.watch(0, 1, true);
        Check.due("BITS", m.run(10), -3);
        m.poke(0, 1, 1);
        m.scalar(1, 1);
        Check.due("a FAULT behind a change", m.run(10), 4);
        Check.due("element", m.peek(0, 1), Long.MIN_VALUE);
        m.free(0);
        Check.due("watches stay", m.count(9), 1);
    }

    private static void back() {
        LaneMachine m = Check.with("set v0,i,4;iota v0,s0;mset m0,5;add v0,v0,v0 ?m0;eq m0,v0,v0;store v0,a0,s0;"
                + "set v0,b,2;mov s0,9;loop s0,e;end;e: end");
        m.memory(3, 4);
        Check.due("nothing to take back", m.back(), -1);
        for (int k = 0; k < 3; k++) {
            Check.due("run", m.run(100), 0);
            Check.due("lanes done", m.count(2), 4 + 4 + 2 + 4 + 2);
            Check.due("back", m.back(), 10);
            Check.due("back", m.back(), 8);
            Check.due("scalar", m.scalarOf(0), 9);
            Check.due("back", m.back(), 7);
            Check.due("scalar", m.scalarOf(0), 0);
            Check.due("back", m.back(), 6);
            Check.due("register", m.register(0, 1), 4);
            Check.due("lane", m.lane(0, 2), 4);
            Check.due("lanes done", m.count(2), 14);
            Check.due("element", m.peek(0, 2), 4);
            Check.due("back", m.back(), 5);
            Check.due("element", m.peek(0, 2), 0);
            Check.due("back", m.back(), 4);
            Check.due("mask", m.mask(0), 5);
            Check.due("back", m.back(), 3);
            Check.due("lane", m.lane(0, 2), 2);
            Check.due("steps", m.count(1), 3);
            Check.due("list", m.count(4), 3);
            m.back();
            m.back();
            Check.due("back", m.back(), 0);
            Check.due("register", m.register(0, 0), -1);
            Check.due("back", m.back(), -1);
        }
    }

    private static void listOfSteps() {
        LaneMachine m = Check.with("set v0,b,5;a: sadd s0,s0,s1;fill v0,s0 ?m0;mset m0,3;jmp a");
        m.scalar(1, 1);
        m.run(3);
        Check.due("trace(0, 0)", m.trace(0, 0), 2);
        Check.due("trace(0, 1)", m.trace(0, 1), 0);
        Check.due("trace(2, 0)", m.trace(2, 0), 0);
        Check.due("trace(2, 1)", m.trace(2, 1), 5);
        Check.due("trace(3, 0)", m.trace(3, 0), -1);
        Check.due("trace(-1, 0)", m.trace(-1, 0), -1);
        Check.due("trace(0, 2)", m.trace(0, 2), -1);
        Check.due("trace(0, -1)", m.trace(0, -1), -1);
        m.run(98);
        Check.due("list", m.count(4), 64);
        Check.due("trace(0, 0)", m.trace(0, 0), 4);
        Check.due("trace(63, 0)", m.trace(63, 0), 1);
        Check.due("trace(2, 1)", m.trace(2, 1), 2);
        Check.due("trace(64, 0)", m.trace(64, 0), -1);
        long was = m.scalarOf(0);
        for (int k = 0; k < 64; k++) {
            Check.due("back", m.back(), 4 - k % 4);
        }
        Check.due("back", m.back(), -1);
        Check.due("scalar", m.scalarOf(0), was - 16);
        Check.due("steps", m.count(1), 37);
        Check.due("list", m.count(4), 0);
    }

    private static void listBecomesEmpty() {
        LaneMachine m = Check.with("a: sadd s0,s0,s1;jmp a");
        m.memory(3, 4);
        String[] calls = {"memory", "free", "resize", "poke", "scalar", "slim", "begin"};
        for (int k = 0; k < calls.length; k++) {
            m.run(6);
            refused(m);
            m.keep(0);
            m.watch(0, 0, k % 2 == 0);
            m.stop(1, k % 2 == 0);
            m.stop(1, false);
            Check.assemble(m, "foo");
            Check.due("the list stays", m.count(4) > 5, true);
            long steps = m.count(1);
            switch (k) {
                case 0:
                    m.memory(3, 4);
                    break;
                case 1:
                    m.free(1);
                    break;
                case 2:
                    m.resize(0, 4);
                    break;
                case 3:
                    m.poke(0, 0, 0);
                    break;
                case 4:
                    m.scalar(0, m.scalarOf(0));
                    break;
                case 5:
                    m.slim();
                    break;
                default:
                    m.begin();
                    break;
            }
            Check.due(calls[k] + " empties the list", m.count(4), 0);
            Check.due("back", m.back(), -1);
            Check.due("steps behind " + calls[k], m.count(1), k < 5 ? steps : 0);
        }
    }

    private static void refused(LaneMachine m) {
        m.memory(7, 1);
        m.memory(3, 65);
        m.free(5);
        m.free(-1);
        m.resize(0, 65);
        m.resize(5, 1);
        m.poke(0, 4, 1);
        m.poke(5, 0, 1);
        m.scalar(8, 1);
        m.restore();
        m.assemble(4001);
    }

    private static void fault(String what, LaneMachine m, int run, int place, int lane) {
        Check.due(what, m.run(2000), run);
        Check.due(what + ": fault(0)", m.fault(0), run);
        Check.due(what + ": fault(1)", m.fault(1), place);
        Check.due(what + ": fault(2)", m.fault(2), lane);
        Check.due(what + ": fault(3)", m.fault(3), 0);
        Check.due(what + ": fault(-1)", m.fault(-1), 0);
        Check.due(what + ": PC", m.count(5), place);
    }

    private static void faults() {
        LaneMachine m = Check.with("mov s1,1;a: sdiv s2,s1,s0;end");
        fault("ZERO of scalars", m, 5, 1, -1);
        Check.due("no step", m.count(1), 1);
        fault("again", m, 5, 1, -1);
        Check.due("run(0)", m.run(0), -1);
        Check.due("it stays", m.fault(0), 5);
        m.stop(1, true);
        m.keep(1);
        m.scalar(0, 1);
        Check.due("it stays", m.fault(0), 5);
        Check.due("back", m.back(), -1);
        Check.due("nothing was taken back", m.fault(0), 5);
        Check.due("it can go on", m.run(1), -1);
        Check.due("no fault", m.fault(0), 0);
        Check.due("no place", m.fault(1), -1);
        m = Check.with("mov s1,1;srem s2,s1,s0");
        fault("ZERO of srem", m, 5, 1, -1);
        m.back();
        Check.due("taken back", m.fault(0), 0);
        fault("again", m, 5, 1, -1);
        m.begin();
        Check.due("begun", m.fault(0), 0);
        fault("again", m, 5, 1, -1);
        Check.assemble(m, "foo");
        Check.due("a text with a FAULT", m.fault(0), 5);
        Check.assemble(m, "end");
        Check.due("another program", m.fault(0), 0);
        fault("NULL", Check.with("set v0,b,1;load v0,a3,s0"), 3, 1, -1);
        fault("LENGTH", Check.with("set v0,b,1;set v1,b,2;add v0,v0,v1"), 2, 2, -1);
        fault("KIND", Check.with("set v0,b,1;set v1,c,1;add v0,v0,v1"), 1, 2, -1);
        fault("NONE", Check.with("set v0,b,1;add v0,v0,v1"), 1, 1, -1);
        fault("BOUNDS of get", Check.with("set v0,b,3;get s0,v0,3"), 4, 1, 3);
        fault("BOUNDS of put", Check.with("set v0,b,3;put v0,31,s0"), 4, 1, 31);
    }

    private static void faultsInPart() {
        LaneMachine m = Check.with("set v0,i,4;set v1,i,4;mov s0,6;fill v0,s0;mov s0,-2;iota v1,s0;mset m0,14;"
                + "div v0,v0,v1 ?m0");
        fault("ZERO", m, 5, 7, 2);
        long[] want = {6, -6, 6, 6};
        for (int i = 0; i < 4; i++) {
            Check.due("lane " + i, m.lane(0, i), want[i]);
        }
        Check.due("lanes done", m.count(2), 16);
        Check.due("list", m.count(4), 7);
        // Lanes that are not ON never fault; the next lane that is ON is done.
        m = Check.with("set v0,i,4;set v1,i,4;mov s0,-2;iota v1,s0;mset m0,11;rem v0,v1,v1 ?m0");
        Check.due("run", m.run(100), 0);
        Check.due("lanes done", m.count(2), 4 + 4 + 4 + 3);
        m = Check.with(FLOATS + "half v1,v0;end");
        fault("RANGE of half", m, 6, 8, 0);
        Check.due("half does nothing in part", m.lane(1, 0), Float.floatToIntBits(512));
        m = Check.with(FLOATS + "put v0,2,s1;put v0,0,s1;half v1,v0");
        fault("RANGE of half at 1", m, 6, 10, 1);
        m = Check.with(FLOATS + "put v0,1,s1;scan v1,v0");
        fault("RANGE of scan", m, 6, 9, 2);
        Check.due("lane 1", m.lane(1, 1), Float.floatToIntBits(0x1p127f));
        Check.due("lane 2", m.lane(1, 2), Float.floatToIntBits(512));
        m = Check.with("set v0,i,3;set v1,i,3;iota v1,s0;scatter v1,a0,v1");
        m.memory(3, 2);
        fault("BOUNDS of scatter", m, 4, 3, 2);
        Check.due("element 1", m.peek(0, 1), 1);
    }

    private static void backBehindFaults() {
        // The lanes that a FAULT left are taken back with the step ahead of it.
        LaneMachine m = Check.with("set v0,i,3;set v1,i,3;iota v1,s0;mov s1,5;scatter v1,a0,v1");
        m.memory(3, 2);
        Check.due("run", m.run(10), 4);
        Check.due("again", m.run(10), 4);
        Check.due("back", m.back(), 3);
        Check.due("element 1", m.peek(0, 1), 0);
        // Also when the list has just that step.
        m = Check.with("set v0,i,3;set v1,i,3;iota v1,s0;mov s1,5;load v0,a0,s0");
        m.memory(3, 2);
        m.run(3);
        m.poke(0, 0, 8);
        m.poke(0, 1, 9);
        Check.due("run", m.run(10), 4);
        Check.due("lane 1", m.lane(0, 1), 9);
        Check.due("back", m.back(), 3);
        Check.due("lane 1", m.lane(0, 1), 0);
        // scan goes on from what it left: at last it has no FAULT, and each step is taken back on its own.
        m = Check.with(FLOATS + "set v2,f,4;mov s2,2;fill v2,s2;set v3,f,4;div v3,v0,v2;neg v1,v3;mset m0,2;"
                + "add v1,v0,v3 ?m0;mset m0,4;max v1,v0,v0 ?m0;mset m0,7;mov s4,1;scan v1,v1 ?m0");
        fault("RANGE of scan", m, 6, 20, 2);
        Check.due("lane 0", m.lane(1, 0), Float.floatToIntBits(-0x1p126f));
        Check.due("lane 1", m.lane(1, 1), Float.floatToIntBits(0x1p127f));
        m.keep(1);
        Check.due("then it goes", m.run(10), 0);
        Check.due("lane 1", m.lane(1, 1), Float.floatToIntBits(0x1p126f));
        Check.due("lane 2", m.lane(1, 2), Float.floatToIntBits(0x1.8p127f));
        Check.due("back", m.back(), 20);
        Check.due("as it was ahead", m.differs(1, -1), 0);
        Check.due("back", m.back(), 19);
        Check.due("lane 1", m.lane(1, 1), Float.floatToIntBits(0x1.8p127f));
        fault("RANGE of scan again", m, 6, 20, 2);
        Check.due("as it was then", m.differs(1, -1), 0);
    }

    private static void orderOfFaults() {
        // KIND of registers, LENGTH, NULL, KIND of the array, BOUNDS.
        LaneMachine m = Check.with("set v0,l,2;set v1,l,3;gather v0,a1,v1");
        fault("KIND first", m, 1, 2, -1);
        Check.program(m, "set v0,l,2;set v1,i,3;gather v0,a1,v1");
        fault("then LENGTH", m, 2, 2, -1);
        Check.program(m, "set v0,l,2;set v1,i,2;gather v0,a1,v1");
        fault("then NULL", m, 3, 2, -1);
        m.memory(4, 0);
        m.memory(3, 0);
        fault("then KIND of the array", m, 1, 2, -1);
        m.free(1);
        m.memory(4, 0);
        fault("then BOUNDS", m, 4, 2, 0);
        Check.program(m, "set v0,l,2;load v0,a1,s7;end");
        m.scalar(7, Long.MAX_VALUE);
        fault("places do not go round", m, 4, 1, 0);
        m.scalar(7, -1);
        m.resize(1, 1);
        fault("nor below 0", m, 4, 1, 0);
        Check.program(m, "set v0,l,2;mset m0,2;load v0,a1,s7 ?m0;end");
        Check.due("but where the lane is not ON", m.run(9), 0);
        Check.program(m, "set v0,d,2;set v1,d,2;div v0,v0,v1");
        fault("ZERO of 0 by 0", m, 5, 2, 0);
        Check.program(m, "set v0,d,2;set v1,d,2;neg v1,v1;div v0,v0,v1");
        fault("ZERO of -0", m, 5, 3, 0);
        Check.program(m, "set v0,d,2;set v1,i,2;sqrt v1,v0");
        fault("KIND of sqrt", m, 1, 2, -1);
        Check.program(m, "set v0,f,2;set v1,i,2;sat v0,v1");
        fault("KIND of sat", m, 1, 2, -1);
        Check.program(m, "set v0,f,2;least s0,v0");
        fault("KIND of least", m, 1, 1, -1);
        Check.program(m, "set v0,f,2;set v1,f,2;set v2,l,2;shuf v0,v1,v2");
        fault("KIND of shuf", m, 1, 3, -1);
    }
}
