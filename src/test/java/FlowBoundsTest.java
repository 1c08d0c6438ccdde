/** "Terms", FLOW, and promises 5 check and 6 flow: a test for each sentence that names a boundary. */
public final class FlowBoundsTest {
    public static void main(String[] args) {
        atFirst();
        behindSet();
        jumps();
        conditions();
        returns();
        endsOfProgram();
        reached();
        manyWays();
        longWays();
        goodOfSome();
        goodOfOneRegister();
        goodOfGetAndPut();
        check();
        flowAnswers();
        programs();
        Check.finish();
    }

    private static void ways(LaneMachine m, int i, int register, int want) {
        Check.due("ways of v" + register + " at " + i, m.flow(i, 2 + register), want);
    }

    private static void reached(LaneMachine m, int... want) {
        for (int i = 0; i < want.length; i++) {
            Check.due("REACHED " + i, m.flow(i, 0), want[i]);
        }
    }

    private static void atFirst() {
        Check.holds("At instruction 0 each may be NONE");
        LaneMachine m = Check.with("end");
        for (int v = 0; v < 8; v++) {
            ways(m, 0, v, 1);
        }
        m = Check.with("a: set v7,b,1;jmp a");
        ways(m, 0, 7, 2);
        ways(m, 0, 6, 1);
        ways(m, 1, 7, 1);
    }

    private static void behindSet() {
        Check.holds("behind an instruction: what may be ahead of it, but by set just that kind and length");
        LaneMachine m = Check.with("set v0,b,1;set v0,d,32;add v0,v1,v1;neg v7,v0;end");
        int[] first = {1, 1, 1, 1, 1};
        for (int i = 0; i < 5; i++) {
            ways(m, i, 0, first[i]);
            ways(m, i, 1, 1);
            ways(m, i, 7, 1);
        }
        Check.due("NONE for v1", m.flow(2, 1), 0);
        Check.due("v7 stays NONE", m.flow(3, 1), 0);
        m = Check.with("set v0,b,1;set v7,b,1;neg v0,v7;set v7,b,2;neg v0,v7;set v7,h,1;neg v0,v7");
        Check.due("the last set counts", m.flow(2, 1), 1);
        Check.due("another length", m.flow(4, 1), 0);
        Check.due("another kind", m.flow(6, 1), 0);
    }

    private static void jumps() {
        Check.holds("This flows on: from jmp and call to L");
        reached(Check.with("jmp a;end;a: end"), 1, 0, 1);
        reached(Check.with("call a;end;a: end"), 1, 0, 1);
        reached(Check.with("end;a: end;jmp a"), 1, 0, 0);
        reached(Check.with("jmp a;b: end;a: jmp b"), 1, 1, 1);
        reached(Check.with("a: jmp a;end"), 1, 0);
        reached(Check.with("jmp e;end;e:"), 1, 0);
        reached(Check.with("call e;end;e:"), 1, 0);
        reached(Check.with("jmp a;end;a: end;call a;end"), 1, 0, 1, 0, 0);
    }

    private static void conditions() {
        Check.holds("This flows on: from jeq, jne, jlt, jle, loop to L and to the next one, and nowhere else");
        for (String line : new String[] {"jeq s0,s0,a", "jne s0,s0,a", "jlt s0,s0,a", "jle s0,s0,a", "loop s0,a"}) {
            LaneMachine m = Check.with(line + ";set v0,b,1;jmp b;a: set v0,b,2;b: end");
            reached(m, 1, 1, 1, 1, 1);
            ways(m, 4, 0, 2);
            m = Check.with(line + ";end;a:");
            reached(m, 1, 1);
            m = Check.with("end;a:" + line);
            reached(m, 1, 0);
            m = Check.with("a:" + line);
            reached(m, 1);
            m = Check.with("a: set v0,b,1;" + line);
            ways(m, 0, 0, 2);
            reached(Check.with(line + ";a: end;call a;end;end"), 1, 1, 0, 0, 0);
        }
    }

    private static void returns() {
        Check.holds("This flows on: from ret to the one behind each call of the program (REACHED or not)");
        LaneMachine m = Check.with("ret;call a;end;call a;a: end");
        reached(m, 1, 0, 1, 0, 1);
        m = Check.with("call a;end;a: set v0,b,1;ret;call b;b: neg v0,v0");
        reached(m, 1, 1, 1, 1, 0, 1);
        ways(m, 1, 0, 1);
        ways(m, 5, 0, 1);
        Check.due("as ret has it", m.flow(5, 1), 1);
        Check.holds("a ret that is not REACHED: nothing");
        reached(Check.with("call a;end;a: end;ret"), 1, 0, 1, 0);
        Check.holds("from ret, with a call that is the last one, or without any");
        reached(Check.with("jmp a;f: ret;a: call f"), 1, 1, 1);
        reached(Check.with("ret;end"), 1, 0);
        Check.holds("from call not to the one behind it");
        m = Check.with("call f;neg v0,v0;end;f: set v0,b,1;ret");
        ways(m, 1, 0, 1);
        Check.due("set by f", m.flow(1, 1), 1);
        Check.due("check", m.check(), 0);
    }

    private static void endsOfProgram() {
        Check.holds("This flows on: from end nowhere; from others to the next one");
        reached(Check.with("end;end"), 1, 0);
        for (int op = 0; op < 59; op++) {
            reached(Check.with(Bench.line(op) + ";end;end"), 1, 1, 0);
            reached(Check.with(Bench.line(op)), 1);
        }
    }

    private static void reached() {
        Check.holds("REACHED are 0 and what something flows to (from what is REACHED)");
        LaneMachine m = Check.with("jmp b;a: set v0,b,1;jmp b;b: end;jmp a");
        reached(m, 1, 0, 0, 1, 0);
        ways(m, 3, 0, 1);
        Check.due("not GOOD if it is not REACHED", m.flow(1, 1), 0);
        Check.due("0 ways if it is not REACHED", m.flow(1, 2), 0);
        Check.due("0 ways if it is not REACHED", m.flow(1, 9), 0);
    }

    private static void manyWays() {
        Check.holds("in how many ways register v may be there: NONE is one, each kind and length another one");
        StringBuilder text = new StringBuilder();
        for (int k = 0; k < 7; k++) {
            for (int length : new int[] {1, 2, 16, 31, 32}) {
                text.append("jeq s0,s1,e;set v7,").append(Bench.KINDS.charAt(k)).append(',').append(length).append(';');
            }
        }
        LaneMachine m = Check.with(text + "e: neg v7,v7;loop s0,e");
        ways(m, 70, 7, 36);
        ways(m, 70, 6, 1);
        ways(m, 71, 7, 36);
        ways(m, 69, 7, 1);
        for (int k = 0; k < 35; k++) {
            ways(m, 2 * k, 7, 1);
        }
        m = Check.with("a: set v0,b,1;jeq s0,s1,a;set v0,b,1;jeq s0,s1,a;set v0,c,1;jmp a");
        ways(m, 0, 0, 3);
        Check.holds("what comes in different ways together");
        m = Check.with("jeq s0,s1,a;set v0,b,1;set v1,b,1;jmp b;a: set v0,i,1;set v1,i,1;b: add v0,v0,v1;set v0,i,2");
        ways(m, 6, 0, 2);
        ways(m, 6, 1, 2);
        ways(m, 7, 0, 2);
    }

    private static void longWays() {
        Check.holds("This flows on: however far, back and forth, of 100 instructions");
        // Each jump leads to the one ahead of it, and the first of them back to the set.
        StringBuilder text = new StringBuilder("jmp l39;l0: jmp l39;");
        for (int k = 1; k < 39; k++) {
            text.append("l").append(k).append(": jmp l").append(k - 1).append(";");
        }
        LaneMachine m = Check.with(text + "l39: set v3,l,17;jmp l38" + ";mov s0,1".repeat(58));
        Check.due("instructions", m.count(0), 100);
        reached(m, 1, 1, 1);
        ways(m, 1, 3, 1);
        ways(m, 39, 3, 1);
        ways(m, 40, 3, 2);
        Check.due("none behind it", m.flow(42, 0), 0);
        text = new StringBuilder();
        for (int k = 0; k < 98; k++) {
            text.append(k == 0 ? "a: " : "").append(k == 50 ? "set v5,d,9;" : "mov s0,1;");
        }
        m = Check.with(text + "neg v5,v5;jmp a");
        Check.due("instructions", m.count(0), 100);
        ways(m, 0, 5, 2);
        ways(m, 50, 5, 2);
        ways(m, 51, 5, 1);
        ways(m, 98, 5, 1);
        Check.due("GOOD", m.flow(98, 1), 1);
    }

    private static String either(String one, String other, String line) {
        return "jeq s0,s1,a;" + one + ";jmp b;a: " + other + ";b: " + line;
    }

    private static void good(String text, boolean want) {
        LaneMachine m = Check.with(text);
        int last = m.count(0) - 1;
        Check.due(text, m.flow(last, 1), want ? 1 : 0);
        Check.due("check of " + text, m.check(), want ? 0 : last + 1);
    }

    private static void goodOfSome() {
        Check.holds("GOOD if for its registers there are kinds and lengths, each among what it may be there");
        good(either("set v0,b,1", "set v0,i,2", "neg v0,v0"), true);
        good(either("set v0,b,1", "mov s0,1", "neg v0,v0"), true);
        good(either("mov s0,1", "mov s0,2", "neg v0,v0"), false);
        // Each on its own, also such as never come together.
        good(either("set v0,b,1;set v1,i,1", "set v0,i,1;set v1,b,1", "add v0,v0,v1"), true);
        good(either("set v0,b,1;set v1,i,2", "set v0,i,1;set v1,b,2", "add v0,v0,v1"), false);
        good(either("set v0,b,1;set v1,b,2", "set v0,i,1;set v1,i,2", "add v0,v0,v1"), false);
        good(either("set v0,b,1;set v1,i,1", "set v0,h,1;set v1,l,1", "add v0,v0,v1"), false);
        good(either("set v0,b,1;set v1,i,1", "set v0,h,1;set v1,l,1", "cast v0,v1"), true);
        good(either("set v0,b,32;set v1,i,1", "set v0,h,1;set v1,l,31", "cast v0,v1"), true);
        good(either("set v0,b,32;set v1,i,1", "set v0,h,2;set v1,l,31", "cast v0,v1"), false);
        Check.holds("GOOD: LENGTHS 1 and 32, the least and the greatest");
        good("set v0,b,32;set v1,b,32;add v0,v0,v1", true);
        good("set v0,b,1;set v1,b,1;add v0,v0,v1", true);
        good("set v0,b,1;set v1,b,32;add v0,v0,v1", false);
        good("set v0,b,31;set v1,b,32;add v0,v0,v1", false);
    }

    private static void goodOfOneRegister() {
        Check.holds("GOOD: a register that is named twice: the same one");
        String either = either("set v0,l,4", "set v0,i,5", "");
        good(either + "set v1,i,4;add v0,v1,v0", false);
        good(either + "set v1,i,5;add v0,v1,v0", true);
        good(either + "set v1,l,4;add v0,v1,v0", true);
        good(either + "set v1,l,4;gather v1,a0,v0", false);
        good(either + "set v1,l,5;gather v1,a0,v0", true);
        good(either + "gather v0,a0,v0", true);
        good(either + "shuf v0,v0,v0", true);
        good(either("set v0,l,4", "set v0,b,5", "shuf v0,v0,v0"), false);
        good(either("set v0,l,4", "set v0,b,5", "gather v0,a0,v0"), false);
        good(either("set v0,l,4", "set v0,f,5", "sat v0,v0"), true);
        good(either("set v0,d,4", "set v0,f,5", "sat v0,v0"), false);
        good(either("set v0,d,4", "set v0,f,5", "sqrt v0,v0"), true);
        good(either + "cast v0,v0", true);
    }

    private static void goodOfGetAndPut() {
        Check.holds("GOOD: nor, of get and put, BOUNDS would come");
        for (int n : new int[] {0, 1, 15, 30, 31}) {
            for (int length : new int[] {1, 2, 16, 31, 32}) {
                good("set v0,b," + length + ";get s0,v0," + n, n < length);
                good("set v0,b," + length + ";put v0," + n + ",s0", n < length);
            }
        }
        good(either("set v0,l,4", "set v0,i,5", "get s0,v0,4"), true);
        good(either("set v0,l,4", "set v0,i,5", "get s0,v0,5"), false);
        good("get s0,v0,0", false);
        good("put v0,0,s0", false);
        Check.holds("GOOD: no other FAULT counts (arrays aside, and what lanes are)");
        good("set v0,i,1;div v0,v0,v0", true);
        good("set v0,i,1;load v0,a7,s0", true);
        good("set v0,i,1;mov s0,-1;fill v0,s0;shuf v0,v0,v0", true);
        good("set v0,d,1;mov s0,-1;fill v0,s0;sqrt v0,v0", true);
        good("sdiv s0,s0,s0", true);
        good("a: call a", true);
    }

    private static void check() {
        Check.holds("check: 0, or 1 more than the first instruction that is REACHED and not GOOD");
        Check.due("at 0", Check.with("neg v0,v0;neg v1,v1").check(), 1);
        Check.due("the first of two", Check.with("mov s0,1;neg v0,v0;neg v1,v1").check(), 2);
        Check.due("the first in place, not the first that is come to",
                Check.with("jmp b;a: neg v0,v0;end;b: neg v1,v1;jmp a").check(), 2);
        Check.due("not REACHED", Check.with("end;neg v0,v0").check(), 0);
        Check.due("without a program", new LaneMachine().check(), 0);
        StringBuilder text = new StringBuilder();
        for (int k = 0; k < 99; k++) {
            text.append("mov s0,1;");
        }
        Check.due("the last of 100", Check.with(text + "neg v0,v0").check(), 100);
        Check.due("none of 100", Check.with(text + "end").check(), 0);
    }

    private static void flowAnswers() {
        Check.holds("flow: -1 if there is no such instruction or what");
        LaneMachine m = Check.with("set v0,b,1;neg v7,v0");
        for (int i = 0; i < 2; i++) {
            Check.due("what -1", m.flow(i, -1), -1);
            Check.due("what 10", m.flow(i, 10), -1);
            Check.due("what 9", m.flow(i, 9), 1);
            Check.due("what 2", m.flow(i, 2), 1);
            Check.due("what 0", m.flow(i, 0), 1);
            Check.due("what 1", m.flow(i, 1), 1 - i);
        }
        Check.due("instruction -1", m.flow(-1, 0), -1);
        Check.due("instruction 2", m.flow(2, 0), -1);
        Check.due("neither", m.flow(2, 10), -1);
        m = Check.with("end;end");
        Check.due("no such what, not REACHED", m.flow(1, 10), -1);
        Check.due("not REACHED", m.flow(1, 0), 0);
        Check.due("without a program", new LaneMachine().flow(0, 0), -1);
    }

    private static void programs() {
        Check.holds("By FLOW: of the program that there is");
        LaneMachine m = Check.with("jmp a;a: neg v0,v0");
        Check.due("check", m.check(), 2);
        m.slim();
        Check.due("slimmed", m.check(), 1);
        Check.due("slimmed", m.flow(1, 0), -1);
        m.restore();
        Check.due("restored", m.check(), 2);
        Check.assemble(m, "foo");
        Check.due("a text with a FAULT", m.check(), 2);
        Check.assemble(m, "set v0,b,1\nneg v0,v0\nneg v1,v0");
        Check.due("another one", m.check(), 3);
        LaneMachine two = Check.with("a: set v0,b,1;set v7,c,3;jeq s0,s1,a;neg v0,v7;end");
        Check.due("the first one", two.check(), 4);
        ways(two, 0, 0, 2);
        Check.program(two, "mov s0,1;jmp e;neg v0,v0;neg v0,v0;e: end");
        reached(two, 1, 1, 0, 0, 1);
        for (int i : new int[] {0, 1, 4}) {
            ways(two, i, 0, 1);
            ways(two, i, 7, 1);
        }
        ways(two, 2, 0, 0);
        m.run(3);
        m.begin();
        Check.due("not by what was run", m.check(), 3);
        Check.assemble(m, "");
        Check.due("an empty one", m.check(), 0);
        Check.due("an empty one", m.flow(0, 0), -1);
    }
}
