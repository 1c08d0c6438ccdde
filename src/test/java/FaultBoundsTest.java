/** INSTRUCTIONS, what comes behind the table: FAULTS of an instruction, a STEP and its LANES DONE. */
public final class FaultBoundsTest {
    private static final double MOST = Double.MAX_VALUE;

    public static void main(String[] args) {
        kindFirst();
        lengthAheadOfNull();
        nullAheadOfKindOfArray();
        laneByLane();
        lanesAheadAreDone();
        elementsAheadAreDone();
        allElseStays();
        lanesThatAreNotOn();
        otherFaultsWithoutLanes();
        whatLanesTell();
        steps();
        lanesDone();
        lanesDoneOfOthers();
        Check.finish();
    }

    private static LaneMachine runs(String lines, int fault) {
        LaneMachine m = Check.with(lines);
        Check.due(lines, m.run(2000), fault);
        Check.fault(lines, m, fault, m.count(5), -1);
        return m;
    }

    private static void kindFirst() {
        Check.holds("looked at in this order: 1 KIND; 2 LENGTH");
        runs("set v0,i,2;set v1,l,3;add v0,v0,v1", 1);
        runs("set v0,i,2;set v1,i,3;set v2,l,2;add v0,v1,v2", 1);
        runs("set v0,i,2;set v1,i,3;add v0,v1,v2", 1);
        runs("set v0,i,2;set v1,i,3;add v0,v1,v0", 2);
        runs("set v0,i,2;set v1,i,3;add v0,v0,v1", 2);
        runs("set v0,i,2;set v1,i,3;add v1,v0,v0", 2);
        runs("set v0,i,2;set v1,i,3;eq m0,v0,v1", 2);
        runs("set v0,i,2;set v1,i,3;cast v0,v1", 2);
        runs("set v0,f,2;set v1,i,3;sat v0,v1", 1);
        runs("set v0,i,1;set v1,i,32;sort v0,v1", 2);
    }

    private static void lengthAheadOfNull() {
        Check.holds("looked at in this order: 2 LENGTH; 3 NULL: the array is NONE");
        for (String word : new String[] {"gather", "scatter"}) {
            runs("set v0,i,2;set v1,l,2;" + word + " v0,a7,v1", 1);
            runs("set v0,i,2;set v1,i,3;" + word + " v0,a7,v1", 2);
            runs("set v0,i,2;set v1,i,2;" + word + " v0,a7,v1", 3);
        }
        for (String word : new String[] {"load", "store"}) {
            runs(word + " v0,a7,s0", 1);
            runs("set v0,i,2;" + word + " v0,a7,s0", 3);
        }
    }

    private static void nullAheadOfKindOfArray() {
        Check.holds("looked at in this order: 1 KIND: it is of another kind than V; then 4 BOUNDS");
        for (String line : new String[] {"gather v0,a0,v1", "scatter v0,a0,v1", "load v0,a0,s0", "store v0,a0,s0"}) {
            LaneMachine m = new LaneMachine();
            m.memory(4, 0);
            Check.program(m, "set v0,i,2;set v1,i,3;" + line);
            boolean two = line.contains("v1");
            Check.due("LENGTH first", m.run(9), two ? 2 : 1);
            Check.program(m, "set v0,i,2;set v1,i,2;" + line);
            Check.due("KIND", m.run(9), 1);
            Check.fault("KIND", m, 1, 2, -1);
            m.free(0);
            m.memory(3, 0);
            Check.due("BOUNDS", m.run(9), 4);
            Check.fault("BOUNDS", m, 4, 2, 0);
            m.resize(0, 2);
            Check.due("none", m.run(9), 0);
        }
    }

    private static void laneByLane() {
        Check.holds("then, lane by lane from 0 on, those that are ON: the first lane's FAULT counts");
        double[] x = {1, MOST, 1, 1};
        LaneMachine m = Bench.floats('d', x, Bench.reals(1, 0.5, 0, 1));
        Bench.faults(m, "div v0,v0,v1", 6, 1, Check.d(1), Check.d(MOST), Check.d(1), Check.d(1));
        Bench.faults(m, "mset m0,12;div v0,v0,v1 ?m0", 5, 2, Check.d(1), Check.d(MOST), Check.d(1), Check.d(1));
        m = Bench.floats('d', x, Bench.reals(-0.0, 0.5, 0, 1));
        Bench.faults(m, "div v0,v0,v1", 5, 0, Check.d(1), Check.d(MOST), Check.d(1), Check.d(1));
        m = Check.with("set v0,b,32;set v1,b,32;mset m0,2147483648;div v0,v0,v1 ?m0");
        Check.due("the last lane", m.run(9), 5);
        Check.fault("the last lane", m, 5, 3, 31);
    }

    /** Lane 2 of 4 has a FAULT; lanes 0 and 1 are made, the others are 7 as they were. */
    private static void part(char kind, double[] x, double[] y, String line, int fault, double zero, double one) {
        LaneMachine m = Bench.floats(kind, Bench.reals(7, 7, 7, 7), x, y);
        Bench.faults(m, line, fault, 2, bits(kind, zero), bits(kind, one), bits(kind, 7), bits(kind, 7));
        Bench.faults(m, "mset m0,13;" + line + " ?m0", fault, 2, bits(kind, zero), bits(kind, 7), bits(kind, 7),
                bits(kind, 7));
        Check.due("LANES DONE: of set and load alone", m.count(2), 24);
        Check.due("STEPS: without it", m.count(1), 7);
    }

    private static long bits(char kind, double d) {
        return kind == 'f' ? Check.f(d) : Check.d(d);
    }

    private static void lanesAheadAreDone() {
        Check.holds("Lanes ahead of that lane are done, all else is as it was");
        double[] two = {2, 2, 2, 2};
        part('d', Bench.reals(1, 4, MOST, 1), Bench.reals(1, -4, MOST, 1), "add v0,v1,v2", 6, 2, 0);
        part('d', Bench.reals(1, 4, -MOST, 1), Bench.reals(1, -4, MOST, 1), "sub v0,v1,v2", 6, 0, 8);
        part('d', Bench.reals(1, 4, -MOST, 1), two, "mul v0,v1,v2", 6, 2, 8);
        part('d', Bench.reals(1, 4, 4, 1), Bench.reals(2, 2, -0.0, 1), "div v0,v1,v2", 5, 0.5, 2);
        part('d', Bench.reals(1, 4, 4, 1), Bench.reals(2, 3, 0, 0), "rem v0,v1,v2", 5, 1, 1);
        part('d', Bench.reals(1, 4, -4, -1), two, "sqrt v0,v1", 6, 1, 2);
        part('f', Bench.reals(1, 4, Float.MAX_VALUE, 1), two, "mul v0,v1,v2", 6, 2, 8);
        Check.holds("Lanes ahead of that lane are done: of whole ones");
        LaneMachine m = Bench.wholes("iii", new long[] {7, 7, 7, 7}, new long[] {1, 4, 4, 1}, new long[] {1, 2, 0, 1});
        Bench.faults(m, "div v0,v1,v2", 5, 2, 1, 2, 7, 7);
        Bench.faults(m, "rem v0,v1,v2", 5, 2, 0, 0, 7, 7);
    }

    private static void elementsAheadAreDone() {
        Check.holds("Lanes (elements) ahead of that lane are done");
        for (String line : new String[] {"store v0,a2,s0", "scatter v0,a2,v1"}) {
            LaneMachine m = Bench.wholes("lil", new long[] {1, 2, 3, 4}, new long[] {0, 1, 2, 3}, new long[] {8, 9});
            Check.due("run", Bench.run(m, line), 4);
            Check.fault(line, m, 4, 6, 2);
            Check.elements(line, m, 2, 1, 2);
        }
        for (String line : new String[] {"load v0,a2,s0", "gather v0,a2,v1"}) {
            LaneMachine m = Bench.wholes("lil", new long[] {1, 2, 3, 4}, new long[] {0, 1, 2, 3}, new long[] {8, 9});
            Bench.faults(m, line, 4, 2, 8, 9, 3, 4);
        }
        LaneMachine m = Bench.wholes("lli", new long[] {1, 2, 3}, new long[] {4, 5, 6}, new long[] {2, 2, 3});
        Bench.faults(m, "shuf v0,v1,v2", 4, 2, 6, 6, 3);
        Check.holds("of all of these but half");
        m = Bench.floats('d', Bench.reals(7, 7, 7, 7), Bench.reals(1, MOST, 1, MOST));
        Bench.faults(m, "half v0,v1", 6, 1, Check.d(7), Check.d(7), Check.d(7), Check.d(7));
    }

    private static void allElseStays() {
        Check.holds("all else is as it was; PC stays; it is no STEP");
        String[] lines = {"add v0,v0,v3", "add v0,v0,v2", "sel v0,m0,v1,v2", "eq m0,v0,v2", "sum s0,v3", "least s0,v4",
            "get s0,v0,4", "put v0,4,s1", "gather v0,a7,v1", "load v0,a0,s7", "store v0,a0,s7", "sdiv s0,s1,s2",
            "srem s0,s1,s2", "shuf v0,v0,v4", "pack v0,m0,v2", "sqrt v0,v1", "sat v0,v3", "half v0,v2",
            "div v0,v0,v4 ?m1", "cast v0,v2"};
        for (String line : lines) {
            LaneMachine m = Check.with("set v0,i,4;iota v0,s1;set v1,i,4;set v2,i,3;set v4,d,4;mset m0,11;mset m1,15;"
                    + "mov s0,5;" + line);
            m.memory(3, 4);
            m.scalar(1, 1);
            m.scalar(7, 9);
            Check.due("run", m.run(8), -1);
            m.keep(0);
            int lanesDone = m.count(2);
            Check.due(line, m.run(1) > 0, true);
            Check.due(line + ": state", m.differs(0, -1), 0);
            Check.due(line + ": PC", m.count(5), 8);
            Check.due(line + ": STEPS", m.count(1), 8);
            Check.due(line + ": LANES DONE", m.count(2), lanesDone);
            Check.due(line + ": list", m.count(4), 8);
            Check.due(line + ": ended", m.count(7), 0);
            Check.due(line + ": again", m.run(1), m.fault(0));
            Check.due(line + ": and at last", m.run(0), -1);
        }
    }

    private static void lanesThatAreNotOn() {
        Check.holds("Lanes that are not ON never fault");
        String[] lines = {"add v0,v1,v1", "sub v0,v1,v2", "mul v0,v1,v1", "div v0,v1,v4", "rem v0,v1,v4", "sqrt v0,v2",
            "cast v3,v1", "gather v0,a0,v5", "scatter v0,a0,v5", "load v0,a0,s0", "store v0,a0,s0", "shuf v0,v1,v5",
            "scan v0,v1", "div v5,v5,v6", "rem v5,v5,v6"};
        for (String line : lines) {
            LaneMachine m = ends();
            Check.program(m, "set v0,d,3;set v1,d,3;load v1,a1,s7;set v2,d,3;neg v2,v1;set v3,f,3;set v4,d,3;"
                    + "set v5,i,3;mov s6,-1;fill v5,s6;set v6,i,3;mset m0,0;mset m1,4294967288;" + line + " ?m0;"
                    + line + " ?m1;" + line);
            m.keep(0);
            Check.due("none is ON: " + line, m.run(15), -1);
            Check.due("no lane: " + line, m.trace(0, 1), 0);
            Check.due("nor bits from the LENGTH on: " + line, m.trace(1, 1), 0);
            int fault = m.run(1);
            Check.due("all are ON: " + line, fault >= 4 && fault <= 6, true);
            Check.due("the first lane: " + line, m.fault(2), line.startsWith("scan") ? 1 : 0);
        }
    }

    /** A machine with an array without elements, one of the greatest numbers, and s0 far off. */
    private static LaneMachine ends() {
        LaneMachine m = Bench.floats('d', Bench.reals(1), Bench.reals(MOST, MOST, MOST));
        m.resize(0, 0);
        m.scalar(0, Long.MIN_VALUE);
        return m;
    }

    private static void otherFaultsWithoutLanes() {
        Check.holds("KIND, LENGTH and NULL come whatever lanes are ON");
        runs("set v0,b,2;mset m0,0;add v0,v0,v1 ?m0", 1);
        runs("set v0,b,2;set v1,c,2;mset m0,0;add v0,v0,v1 ?m0", 1);
        runs("set v0,b,2;set v1,b,3;mset m0,0;add v0,v0,v1 ?m0", 2);
        runs("set v0,b,2;mset m0,0;load v0,a0,s0 ?m0", 3);
        runs("set v0,b,2;mset m0,0;sum s0,v1 ?m0", 1);
        LaneMachine m = new LaneMachine();
        m.memory(1, 2);
        Check.program(m, "set v0,b,2;mset m0,0;store v0,a0,s0 ?m0");
        Check.due("KIND of the array", m.run(9), 1);
    }

    private static void whatLanesTell() {
        Check.holds("the lane: -1 for KIND, LENGTH, NULL, DEPTH, and ZERO of scalars; of get and put N");
        runs("add v0,v0,v0", 1);
        runs("set v0,b,1;set v1,b,2;add v0,v0,v1", 2);
        runs("set v0,b,1;load v0,a0,s0", 3);
        runs("f: call f", 7);
        runs("sdiv s0,s0,s0", 5);
        LaneMachine m = Check.with("set v0,b,1;get s0,v0,31");
        m.run(9);
        Check.fault("get", m, 4, 1, 31);
        m = Check.with("set v0,b,30;put v0,30,s0");
        m.run(9);
        Check.fault("put", m, 4, 1, 30);
        m = Check.with("set v0,b,30;div v0,v0,v0");
        m.run(9);
        Check.fault("lane 0", m, 5, 1, 0);
    }

    private static void steps() {
        Check.holds("A STEP is an instruction that is done (67 and 66, too)");
        String[] lines = {"mov s0,1", "end", "ret", "jmp a;a:", "loop s0,a;a:", "call a;a:", "jeq s0,s1,a;a:"};
        for (String line : lines) {
            LaneMachine m = Check.with(line);
            Check.due(line, m.run(5), 0);
            Check.due(line + ": STEPS", m.count(1), 1);
            Check.due(line + ": of the list", m.count(4), 1);
            Check.due(line + ": PC is behind it", m.count(5), 1);
            Check.due(line + ": ended", m.count(7), 1);
            Check.due(line + ": nothing more", m.run(5), 0);
            Check.due(line + ": STEPS", m.count(1), 1);
        }
        Check.holds("A STEP: end, too: behind it");
        LaneMachine m = Check.with("end;end;end");
        m.run(3);
        Check.due("PC", m.count(5), 1);
        Check.due("ended", m.count(7), 1);
        m = Check.with("jmp a;end;a: ret;end");
        m.run(3);
        Check.due("PC", m.count(5), 3);
        Check.due("ended", m.count(7), 1);
    }

    /** What an instruction with ? writes of 4 lanes: 2 ON, all, none. */
    private static void writes(String line, int two, int all) {
        String sets = "set v0,i,4;set v1,i,4;iota v1,s7;set v2,i,4;mov s0,1;fill v2,s0;set v3,d,4;fill v3,s0;mset m0,6;"
                + "mset m1,4294967289;mset m2,0;";
        LaneMachine m = Check.with(sets + line + " ?m0;" + line + " ?m1;" + line + " ?m2;" + line);
        m.memory(3, 8);
        Check.due(line, m.run(100), 0);
        Check.due(line + ": two are ON", m.trace(3, 1), two);
        Check.due(line + ": two of the LENGTH are ON", m.trace(2, 1), two);
        Check.due(line + ": none is ON", m.trace(1, 1), 0);
        Check.due(line + ": all are ON", m.trace(0, 1), all);
        Check.due(line + ": LANES DONE", m.count(2), 4 + 4 + 4 + 4 + 4 + 4 + 4 + 2 * two + all);
    }

    private static void lanesDone() {
        Check.holds("LANES DONE: of others with ? those that are ON; eq .. ge, sum, least, most: 0");
        for (String word : "add sub mul div rem min max and or xor".split(" ")) {
            writes(word + " v0,v1,v2", 2, 4);
        }
        for (String word : "shl shr ush rot".split(" ")) {
            writes(word + " v0,v1,s0", 2, 4);
        }
        for (String word : "neg abs cast sat rev scan".split(" ")) {
            writes(word + " v0,v1", 2, 4);
        }
        writes("sqrt v3,v3", 2, 4);
        writes("cast v3,v1", 2, 4);
        writes("gather v0,a0,v1", 2, 4);
        writes("scatter v0,a0,v1", 2, 4);
        writes("scatter v0,a0,v2", 2, 4);
        writes("load v0,a0,s0", 2, 4);
        writes("store v0,a0,s0", 2, 4);
        writes("fill v0,s0", 2, 4);
        writes("iota v0,s0", 2, 4);
        writes("shuf v0,v2,v1", 2, 4);
        writes("zip v0,v2,v1", 2, 4);
        for (String word : "eq ne lt le gt ge".split(" ")) {
            writes(word + " m3,v0,v1", 0, 0);
        }
        for (String word : "sum least most".split(" ")) {
            writes(word + " s1,v1", 0, 0);
        }
    }

    private static void lanesDoneOfOthers() {
        Check.holds("LANES DONE: set: its LENGTH; half and put: 1; sort, sel: the LENGTH; 0 if it writes none");
        String[] lines = {"set v1,b,32", "set v1,b,1", "half v0,v0", "put v0,3,s0", "sort v0,v0", "sel v0,m0,v0,v0",
            "pack v0,m0,v0", "spread v0,m0,v0", "pack v0,m2,v0", "spread v0,m2,v0", "pack v0,m1,v0", "get s0,v0,0",
            "mand m0,m0,m0", "mor m0,m0,m0", "mxor m3,m0,m0", "mnot m3,m0", "mset m3,5", "mcount s0,m0",
            "mfirst s0,m0", "mov s0,5", "sadd s0,s0,s0", "ssub s0,s0,s0", "smul s0,s0,s0", "sdiv s0,s0,s1",
            "srem s0,s0,s1", "jmp e", "jeq s0,s1,e", "jne s0,s1,e", "jlt s0,s1,e", "jle s0,s1,e", "loop s0,e",
            "call e", "ret", "end"};
        int[] want = {32, 1, 1, 1, 4, 4, 2, 2, 0, 0, 1};
        for (int k = 0; k < lines.length; k++) {
            LaneMachine m = Check.with("set v0,b,4;mov s1,1;mset m0,4294967289;mset m1,8;" + lines[k] + ";e:");
            m.run(4);
            Check.due(lines[k], m.run(1), 0);
            int due = k < want.length ? want[k] : 0;
            Check.due(lines[k] + ": of the STEP", m.trace(0, 1), due);
            Check.due(lines[k] + ": in all", m.count(2), 4 + due);
        }
    }
}
