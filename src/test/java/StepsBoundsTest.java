/** "Terms", THE LIST OF STEPS: a test for each sentence that names a boundary; and back() of every instruction. */
public final class StepsBoundsTest {
    private static final String WHOLE = "set v0,i,4;set v1,i,4;iota v1,s7;set v2,i,4;mov s1,2;fill v2,s1;mset m0,16;"
            + "mset m2,32;mset m3,64;mset m1,10;";
    private static final String LOOP = "a: sadd s0,s0,s1;jmp a";

    public static void main(String[] args) {
        latest();
        everyInstruction();
        callsAndReturns();
        stepsAndLanes();
        whatStays();
        faultGoes();
        partsGo();
        partsBehindPoke();
        partsLongAgo();
        partsThatHelp();
        againAndAgain();
        endedAgain();
        emptyByCalls();
        notByRefusedCalls();
        emptyByPrograms();
        notByOthers();
        Check.finish();
    }

    private static LaneMachine looping() {
        LaneMachine m = Check.with(LOOP);
        m.scalar(1, 1);
        return m;
    }

    private static void latest() {
        Check.holds("THE LIST OF STEPS has the latest 64 STEPS");
        LaneMachine m = looping();
        for (int steps : new int[] {0, 1, 62, 63, 64, 65, 66, 127, 128, 129, 200}) {
            m.begin();
            m.scalar(0, 0);
            m.run(steps);
            int held = Math.min(steps, 64);
            Check.due("list behind " + steps, m.count(4), held);
            Check.due("the first one", m.trace(held - 1, 0), held == 0 ? -1 : (steps - held) % 2);
            Check.due("none ahead of it", m.trace(held, 0), -1);
            Check.due("none ahead of it", m.trace(held, 1), -1);
        }
        Check.holds("One is TAKEN BACK, the latest first");
        for (int k = 0; k < 64; k++) {
            Check.due("back", m.back(), (199 - k) % 2);
            Check.due("STEPS", m.count(1), 199 - k);
            Check.due("list", m.count(4), 63 - k);
        }
        Check.due("the 65th", m.back(), -1);
        Check.due("STEPS", m.count(1), 136);
        Check.due("scalar", m.scalarOf(0), 68);
        Check.due("PC", m.count(5), 0);
        Check.due("it goes on from there", m.run(3), -1);
        Check.due("list", m.count(4), 3);
        Check.due("STEPS", m.count(1), 139);
        Check.due("scalar", m.scalarOf(0), 70);
    }

    /** One STEP behind the lines: it changes something, and back() changes that again. */
    private static void backOf(String lines, String line) {
        LaneMachine m = Check.with(lines + line + ";e:");
        m.memory(3, 8);
        m.poke(0, 5, 55);
        m.poke(0, 1, 11);
        int place = m.count(0) - 1;
        Check.due(line + ": ahead", m.run(place), -1);
        m.keep(0);
        int[] ahead = counts(m);
        Check.due(line + ": run", m.run(1), 0);
        m.keep(1);
        int[] behind = counts(m);
        Check.due(line + ": STEPS", m.count(1), place + 1);
        for (int k = 0; k < 2; k++) {
            Check.due(line + ": back", m.back(), place);
            Check.due(line + ": all is as it was", m.differs(0, -1), 0);
            Check.due(line + ": counts are as they were", java.util.Arrays.equals(ahead, counts(m)), true);
            Check.due(line + ": once more", m.run(1), 0);
            Check.due(line + ": the same", m.differs(1, -1), 0);
            Check.due(line + ": the same counts", java.util.Arrays.equals(behind, counts(m)), true);
        }
        boolean leads = " jmp jeq jne jlt jle call ret end ".contains(" " + line.split(" ")[0] + " ");
        Check.due(line + ": something changed", m.differs(0, 1) != 0, !leads);
    }

    private static int[] counts(LaneMachine m) {
        int[] counts = new int[11];
        for (int what = 0; what < 11; what++) {
            counts[what] = m.count(what);
        }
        return counts;
    }

    private static void everyInstruction() {
        Check.holds("TAKEN BACK: all is as it was ahead of it");
        backOf(WHOLE, "set v0,d,9");
        backOf(WHOLE, "set v7,b,32");
        for (String word : "add mul max or xor".split(" ")) {
            backOf(WHOLE, word + " v0,v1,v2");
            backOf(WHOLE, word + " v0,v1,v2 ?m1");
        }
        for (String word : "sub div min rem and".split(" ")) {
            backOf(WHOLE, word + " v1,v1,v2");
        }
        for (String word : "shl shr ush rot".split(" ")) {
            backOf(WHOLE, word + " v1,v1,s1");
        }
        for (String word : "neg rev scan half sort cast sat".split(" ")) {
            backOf(WHOLE, word + " v2,v1");
        }
        backOf(WHOLE + "neg v1,v1;", "abs v1,v1");
        backOf("set v0,d,4;mov s1,2;fill v0,s1;", "sqrt v0,v0");
        for (String word : "eq ne lt le gt ge".split(" ")) {
            backOf(WHOLE, word + " m1,v1,v2");
        }
        backOf(WHOLE, "sel v0,m1,v1,v2");
        backOf(WHOLE, "gather v0,a0,v1");
        backOf(WHOLE, "scatter v2,a0,v1");
        backOf(WHOLE, "load v0,a0,s1");
        backOf(WHOLE, "store v2,a0,s1");
        backOf(WHOLE, "fill v0,s1 ?m1");
        backOf(WHOLE, "iota v0,s1");
        backOf(WHOLE, "pack v0,m1,v1");
        backOf(WHOLE, "spread v0,m1,v2");
        backOf(WHOLE, "shuf v0,v2,v1");
        backOf(WHOLE, "zip v0,v1,v2");
        for (String word : "sum least most".split(" ")) {
            backOf(WHOLE + "mov s0,9;", word + " s0,v1");
        }
        backOf(WHOLE, "get s0,v2,3");
        backOf(WHOLE, "put v0,3,s1");
        backOf(WHOLE, "mand m1,m0,m2");
        backOf(WHOLE, "mor m0,m0,m1");
        backOf(WHOLE, "mxor m0,m0,m1");
        backOf(WHOLE, "mnot m3,m1");
        backOf(WHOLE, "mset m3,4294967295");
        backOf(WHOLE, "mcount s0,m1");
        backOf(WHOLE, "mfirst s7,m0");
        backOf(WHOLE, "mov s7,-1");
        for (String word : "sadd smul sdiv".split(" ")) {
            backOf(WHOLE, word + " s0,s1,s1");
        }
        backOf(WHOLE, "ssub s1,s1,s1");
        backOf(WHOLE, "srem s1,s1,s1");
        for (String line : "jmp e/jeq s0,s0,e/jne s0,s1,e/jlt s0,s1,e/jle s0,s1,e/call e/ret/end".split("/")) {
            backOf(WHOLE, line);
        }
        backOf(WHOLE, "loop s1,e");
        backOf(WHOLE, "loop s0,e");
    }

    private static void callsAndReturns() {
        Check.holds("TAKEN BACK: calls that are open are as they were");
        LaneMachine m = Check.with("call f;mov s1,1;call g;end;f: call g;ret;g: ret");
        int[] places = {0, 4, 6, 5, 1, 2, 6, 3};
        int[] open = {1, 2, 1, 0, 0, 1, 0, 0};
        Check.due("run", m.run(100), 0);
        Check.due("STEPS", m.count(1), 8);
        for (int k = 7; k >= 0; k--) {
            Check.due("back", m.back(), places[k]);
            Check.due("open", m.count(6), k == 0 ? 0 : open[k - 1]);
        }
        for (int upTo = 1; upTo <= 8; upTo++) {
            for (int k = 0; k < upTo; k++) {
                m.run(1);
            }
            for (int k = 0; k < upTo; k++) {
                m.back();
            }
        }
        for (int k = 0; k < 8; k++) {
            Check.due("PC", m.count(5), places[k]);
            m.run(1);
            Check.due("open", m.count(6), open[k]);
        }
        Check.due("ended", m.count(7), 1);
        m = Check.with("f: call f");
        m.run(16);
        for (int k = 0; k < 16; k++) {
            m.back();
        }
        Check.due("none is open", m.count(6), 0);
        Check.due("16 again, then DEPTH", m.run(17), 7);
    }

    private static void stepsAndLanes() {
        Check.holds("TAKEN BACK: STEPS and LANES DONE, too");
        LaneMachine m = Check.with("set v0,b,32;fill v0,s0;mset m0,7;fill v0,s0 ?m0;mov s0,1");
        m.run(100);
        int[] lanes = {0, 32, 64, 64, 67, 67};
        for (int k = 4; k >= 0; k--) {
            m.back();
            Check.due("STEPS", m.count(1), k);
            Check.due("LANES DONE", m.count(2), lanes[k]);
        }
    }

    private static void whatStays() {
        Check.holds("TAKEN BACK: but break points, watches, what is kept, the tape");
        LaneMachine m = looping();
        m.run(5);
        m.stop(1, true);
        m.watch(3, 4, true);
        m.keep(0);
        m.feed(0, 0, 0, 0, 0);
        m.back();
        m.back();
        Check.due("break points", m.count(8), 1);
        Check.due("the same one", m.stop(1, true), false);
        Check.due("watches", m.count(9), 1);
        Check.due("the same one", m.watch(3, 4, true), false);
        Check.due("kept", m.differs(0, -1), 3);
        Check.due("tape", m.count(11), 20);
        Check.due("program", m.count(0), 2);
    }

    private static void faultGoes() {
        Check.holds("TAKEN BACK: there is no fault then");
        LaneMachine m = Check.with("mov s1,1;sdiv s0,s1,s2");
        Check.due("run", m.run(9), 5);
        Check.due("back", m.back(), 0);
        Check.noFault("back", m);
        Check.due("run", m.run(9), 5);
        m.scalar(7, 1);
        Check.due("the list is empty", m.back(), -1);
        Check.fault("nothing was TAKEN BACK", m, 5, 1, -1);
    }

    private static void partsGo() {
        Check.holds("TAKEN BACK: all is as it was ahead of it: lanes that a FAULT left behind it, too");
        String[] lines = {"load v1,a0,s1", "gather v1,a0,v0", "store v0,a0,s1", "scatter v0,a0,v0", "div v1,v0,v0",
            "rem v1,v0,v0", "shuf v1,v0,v2"};
        for (String line : lines) {
            LaneMachine m = Check.with("set v0,i,4;iota v0,s1;rev v0,v0;set v1,i,4;fill v1,s2;set v2,i,4;put v2,3,s3;"
                    + "mov s4,1;" + line);
            m.memory(3, 4);
            m.poke(0, 1, 7);
            m.scalar(1, line.contains("s1") ? 1 : 0);
            m.scalar(3, -1);
            m.scalar(2, 50);
            boolean places = line.contains("v0,a0") || line.contains("a0,v0");
            if (places) {
                m.resize(0, 3);
                m.poke(0, 0, 9);
            }
            m.run(7);
            m.keep(0);
            m.run(1);
            m.keep(1);
            Check.due(line + ": FAULT", m.run(9) > 3, true);
            boolean first = places && !line.startsWith("store") && m.fault(2) == 0;
            Check.due(line + ": it left something", m.differs(1, -1) != 0, !first);
            Check.due(line + ": again", m.run(1) > 3, true);
            Check.due(line + ": back", m.back(), 7);
            Check.due(line + ": as it was", m.differs(0, -1), 0);
            Check.due(line + ": the STEP alone", m.run(1), -1);
            Check.due(line + ": without what the FAULT left", m.differs(1, -1), 0);
        }
    }

    private static void partsBehindPoke() {
        Check.holds("TAKEN BACK: what a FAULT left stays if the list was empty then");
        LaneMachine m = Check.with("set v0,i,4;iota v0,s1;mov s5,5;store v0,a0,s0;end");
        m.memory(3, 2);
        m.scalar(1, 1);
        m.run(3);
        m.scalar(0, 0);
        Check.due("FAULT", m.run(1), 4);
        Check.elements("two are stored", m, 0, 1, 2);
        Check.due("nothing to take back", m.back(), -1);
        Check.elements("they stay", m, 0, 1, 2);
        m.resize(0, 4);
        Check.due("the STEP", m.run(1), -1);
        Check.due("back", m.back(), 3);
        Check.elements("ahead of the STEP", m, 0, 1, 2, 0, 0);
    }

    private static void partsLongAgo() {
        Check.holds("TAKEN BACK: what a FAULT left long ago, behind a STEP that is gone by now, is no matter");
        LaneMachine m = Check.with("set v0,i,4;set v1,i,4;iota v1,s1;a: fill v0,s0;sadd s0,s0,s1;div v0,v0,v1;jmp a");
        m.scalar(0, 50);
        m.scalar(1, -2);
        Check.due("run", m.run(99), 5);
        Check.lanes("it left two lanes", m, 0, -25, -50, 50, 50);
        m.back();
        m.scalar(0, 7);
        m.scalar(1, 1);
        m.begin();
        m.run(40);
        long[] ahead = new long[60];
        for (int k = 0; k < 60; k++) {
            ahead[k] = m.lane(0, 1);
            m.run(1);
        }
        for (int k = 59; k >= 0; k--) {
            m.back();
            Check.due("as it was ahead of STEP " + (40 + k), m.lane(0, 1), ahead[k]);
        }
    }

    /** What a scan with a FAULT left makes the sums smaller, so that it is done when it is come to once more. */
    private static void partsThatHelp() {
        Check.holds("TAKEN BACK: a STEP that had a FAULT the first time: all is as it was ahead of the STEP");
        LaneMachine m = Bench.floats('f', Bench.reals(-1e38, 3e38, 2.4e38));
        Check.due("FAULT", Bench.run(m, "mov s1,9;scan v0,v0;end"), 6);
        Check.fault("the sum of all three", m, 6, 3, 2);
        long first = Check.f(-1e38);
        long second = Check.f((float) -1e38 + (float) 3e38);
        Check.lanes("two are done", m, 0, first, second, Check.f(2.4e38));
        m.keep(0);
        Check.due("now it is done", m.run(1), -1);
        Check.noFault("it was the latest instruction", m);
        Check.lanes("sums of sums", m, 0, first, Check.f((float) -1e38 + ((float) -1e38 + (float) 3e38)),
                Check.f((float) -1e38 + ((float) -1e38 + (float) 3e38) + (float) 2.4e38));
        Check.due("STEPS", m.count(1), 4);
        Check.due("LANES DONE", m.count(2), 9);
        Check.due("the end", m.run(9), 0);
        Check.due("back", m.back(), 4);
        Check.due("back", m.back(), 3);
        Check.due("what the FAULT left is there", m.differs(0, -1), 0);
        Check.due("back", m.back(), 2);
        Check.lanes("what it left is gone", m, 0, first, Check.f(3e38), Check.f(2.4e38));
        Check.due("the same FAULT again", m.run(9), 6);
        Check.fault("the sum of all three", m, 6, 3, 2);
        Check.due("as it was then", m.differs(0, -1), 0);
    }

    private static void againAndAgain() {
        Check.holds("TAKEN BACK: also when the list has been full, and across its 64");
        LaneMachine m = Check.with("set v0,l,4;a: iota v0,s0;sadd s0,s0,s1;store v0,a0,s7;jmp a");
        m.memory(4, 4);
        m.scalar(1, 1);
        m.run(1 + 4 * 40);
        for (int round = 0; round < 3; round++) {
            for (int k = 0; k < 60; k++) {
                m.back();
            }
            Check.due("scalar", m.scalarOf(0), 25);
            Check.elements("elements", m, 0, 24, 25, 26, 27);
            Check.lanes("lanes", m, 0, 24, 25, 26, 27);
            m.run(60);
            Check.due("scalar", m.scalarOf(0), 40);
            Check.elements("elements", m, 0, 39, 40, 41, 42);
            Check.due("STEPS", m.count(1), 161);
            Check.due("LANES DONE", m.count(2), 4 + 8 * 40);
        }
    }

    private static void endedAgain() {
        Check.holds("TAKEN BACK: it has not ended then");
        for (String line : new String[] {"end", "ret", "mov s0,1", "jmp e"}) {
            LaneMachine m = Check.with(line + ";e:");
            m.run(1);
            Check.due("ended", m.count(7), 1);
            m.back();
            Check.due("not any more", m.count(7), 0);
            Check.due("PC", m.count(5), 0);
            Check.due("run", m.run(1), 0);
        }
    }

    /** A machine with a list of three STEPS, an array, and a FAULT. */
    private static LaneMachine withList() {
        LaneMachine m = Check.with("mov s1,1;mov s1,2;set v0,b,3;sdiv s0,s1,s2;end");
        m.memory(3, 2);
        m.run(9);
        Check.due("list", m.count(4), 3);
        return m;
    }

    private static void empty(String what, LaneMachine m, boolean begun) {
        Check.due(what + ": list", m.count(4), 0);
        Check.due(what + ": trace", m.trace(0, 0), -1);
        Check.due(what + ": back", m.back(), -1);
        Check.due(what + ": STEPS", m.count(1), begun ? 0 : 3);
        Check.due(what + ": LANES DONE", m.count(2), begun ? 0 : 3);
        Check.due(what + ": PC", m.count(5), begun ? 0 : 3);
        Check.fault(what, m, begun ? 0 : 5, begun ? -1 : 3, -1);
    }

    private static void emptyByCalls() {
        Check.holds("It becomes empty when memory(), free(), resize(), poke() or scalar() were not refused");
        LaneMachine m = withList();
        m.memory(0, 0);
        empty("memory", m, false);
        m = withList();
        m.free(0);
        empty("free", m, false);
        m = withList();
        m.resize(0, 2);
        empty("resize to what it has", m, false);
        m = withList();
        m.resize(0, 0);
        empty("resize", m, false);
        m = withList();
        m.poke(0, 0, 0);
        empty("poke of what is there", m, false);
        m = withList();
        m.scalar(1, 2);
        empty("scalar of what is there", m, false);
    }

    private static void notByRefusedCalls() {
        Check.holds("It does not become empty when they were refused");
        LaneMachine m = withList();
        m.memory(7, 0);
        m.memory(-1, 0);
        m.memory(0, 65);
        m.memory(0, -1);
        m.free(1);
        m.free(8);
        m.free(-1);
        m.resize(1, 1);
        m.resize(8, 1);
        m.resize(0, 65);
        m.resize(0, -1);
        m.poke(0, 2, 1);
        m.poke(0, -1, 1);
        m.poke(1, 0, 1);
        m.poke(8, 0, 1);
        m.scalar(8, 1);
        m.scalar(-1, 1);
        Check.due("restore is refused", m.restore(), false);
        Check.due("assemble is refused", m.assemble(1), -5000);
        Check.due("a text with a FAULT", Check.assemble(m, "foo"), -1);
        Check.due("list", m.count(4), 3);
        Check.due("back", m.back(), 2);
        LaneMachine full = Check.with("mov s1,1;mov s2,2");
        for (int a = 0; a < 6; a++) {
            full.memory(0, 64);
        }
        full.memory(0, 16);
        full.run(1);
        Check.due("more than 400", full.memory(0, 1), -2);
        Check.due("more than 400", full.resize(6, 17), -2);
        Check.due("list", full.count(4), 1);
        full.memory(0, 0);
        full.run(1);
        Check.due("there are 8", full.memory(0, 0), -2);
        Check.due("list", full.count(4), 1);
    }

    private static void emptyByPrograms() {
        Check.holds("It becomes empty by assemble(), slim() (with 0 gone, too), restore() and begin()");
        LaneMachine m = withList();
        Check.due("assemble", Check.assemble(m, "end"), 1);
        empty("assemble", m, true);
        m = withList();
        Check.due("slim", m.slim(), 1);
        empty("slim", m, true);
        m.run(1);
        Check.due("list", m.count(4), 1);
        Check.due("slim", m.slim(), 0);
        empty("slim with 0 gone", m, true);
        m.run(1);
        Check.due("restore", m.restore(), true);
        empty("restore", m, true);
        m = withList();
        m.begin();
        empty("begin", m, true);
    }

    private static void notByOthers() {
        Check.holds("It does not become empty by other calls");
        LaneMachine m = withList();
        m.check();
        m.flow(0, 2);
        m.code(0, 0);
        m.run(0);
        m.run(5);
        m.keep(0);
        m.differs(0, -1);
        m.stop(0, true);
        m.watch(0, 0, true);
        m.feed(0, 0, 0, 0, 0);
        m.fault(0);
        m.trace(0, 0);
        Check.due("list", m.count(4), 3);
        Check.due("back", m.back(), 2);
    }
}
