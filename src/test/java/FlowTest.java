/** Promises 5 check, 6 flow. */
public final class FlowTest {
    public static void main(String[] args) {
        straight();
        joined();
        calls();
        unreached();
        good();
        wrongInputs();
        Check.finish();
    }

    private static void ways(LaneMachine m, int i, int register, int want) {
        Check.due("ways of v" + register + " at " + i, m.flow(i, 2 + register), want);
    }

    private static void straight() {
        LaneMachine m = Check.with("add v0,v1,v1;set v0,b,4;set v1,b,4;add v0,v1,v1;set v1,b,5;add v0,v1,v1;end;end");
        Check.due("check", m.check(), 1);
        int[] good = {0, 1, 1, 1, 1, 0, 1, 0};
        for (int i = 0; i < 8; i++) {
            Check.due("reached " + i, m.flow(i, 0), i < 7 ? 1 : 0);
            Check.due("good " + i, m.flow(i, 1), good[i]);
            ways(m, i, 0, i < 7 ? 1 : 0);
        }
        // What an instruction finds there does not change it: only set does.
        m = Check.with("set v0,b,4;cast v1,v0;sat v0,v1");
        Check.due("cast needs a register", m.check(), 2);
        ways(m, 2, 1, 1);
    }

    private static void joined() {
        // v0 may be NONE, INT of 4 or LONG of 4 at the add, v1 INT of 4 or of 5.
        LaneMachine m = Check.with("set v1,i,4;jeq s0,s1,on;set v0,i,4;jlt s0,s1,on;set v0,l,4;set v1,i,5;"
                + "on: add v0,v0,v1;back: loop s0,on;jmp back");
        ways(m, 6, 0, 3);
        ways(m, 6, 1, 2);
        ways(m, 6, 2, 1);
        Check.due("some choice fits", m.flow(6, 1), 1);
        Check.due("check", m.check(), 0);
        m = Check.with("a: add v0,v0,v0;set v0,i,4;jne s0,s1,a");
        ways(m, 0, 0, 2);
        Check.due("it flows back", m.check(), 0);
        m = Check.with("a: set v0,i,1;set v0,i,2;jle s0,s1,a;jmp a");
        ways(m, 0, 0, 2);
        ways(m, 1, 0, 1);
    }

    private static void calls() {
        LaneMachine m = Check.with("call f;add v0,v0,v0;end;call f;sub v1,v1,v1;end;f: set v0,b,1;ret");
        Check.due("behind the call", m.flow(1, 0), 1);
        ways(m, 1, 0, 1);
        Check.due("the call that is not reached", m.flow(3, 0), 0);
        Check.due("behind the call that is not reached", m.flow(4, 0), 1);
        Check.due("its register is NONE", m.flow(4, 1), 0);
        Check.due("check", m.check(), 5);
        m = Check.with("call f;add v0,v0,v0;f: end");
        Check.due("without ret nothing comes back", m.flow(1, 0), 0);
        Check.due("check", m.check(), 0);
    }

    private static void unreached() {
        LaneMachine m = Check.with("jmp on;set v0,b,8;on: add v0,v0,v0;end;add v1,v1,v1");
        Check.due("reached", m.flow(1, 0), 0);
        Check.due("good", m.flow(1, 1), 0);
        ways(m, 1, 0, 0);
        ways(m, 2, 0, 1);
        Check.due("not good", m.flow(2, 1), 0);
        Check.due("check", m.check(), 3);
        m.slim();
        Check.due("check", m.check(), 3);
        m = new LaneMachine();
        Check.due("check without a program", m.check(), 0);
        Check.due("flow without a program", m.flow(0, 0), -1);
    }

    private static void isGood(String sets, String line, boolean want) {
        LaneMachine m = Check.with(sets + ";" + line);
        int last = m.count(0) - 1;
        Check.due(sets + " then " + line, m.flow(last, 1), want ? 1 : 0);
        Check.due("check of " + line, m.check(), want ? 0 : last + 1);
    }

    private static void good() {
        String two = "set v0,i,4;set v1,i,4";
        isGood(two, "add v0,v1,v0", true);
        isGood(two, "add v0,v1,v2", false);
        isGood(two, "and v0,v1,v1", true);
        isGood(two, "sqrt v0,v1", false);
        isGood(two, "get s0,v0,3", true);
        isGood(two, "get s0,v0,4", false);
        isGood(two, "put v1,4,s0", false);
        isGood(two, "put v1,3,s0", true);
        isGood(two, "gather v0,a0,v1", true);
        isGood(two, "scatter v0,a0,v0", true);
        isGood(two, "load v0,a0,s0", true);
        isGood(two, "store v2,a0,s0", false);
        isGood(two, "fill v2,s0", false);
        isGood(two, "shuf v0,v0,v0", true);
        isGood(two, "half v0,v1", true);
        isGood(two, "sum s0,v1 ?m0", true);
        isGood(two, "eq m0,v0,v2", false);
        isGood(two, "mand m0,m1,m2", true);
        isGood(two, "ret", true);
        String reals = "set v0,f,4;set v1,f,4;set v2,i,4;set v3,i,5";
        isGood(reals, "sqrt v0,v1", true);
        isGood(reals, "and v0,v1,v1", false);
        isGood(reals, "sum s0,v1", false);
        isGood(reals, "shl v0,v1,s0", false);
        isGood(reals, "cast v0,v2", true);
        isGood(reals, "cast v0,v3", false);
        isGood(reals, "sat v2,v0", true);
        isGood(reals, "sat v0,v2", false);
        isGood(reals, "gather v0,a0,v2", true);
        isGood(reals, "gather v0,a0,v3", false);
        isGood(reals, "gather v0,a0,v1", false);
        isGood(reals, "gather v0,a0,v0", false);
        isGood(reals, "shuf v0,v1,v2", true);
        isGood(reals, "shuf v0,v1,v3", false);
        isGood(reals, "shuf v0,v1,v0", false);
        isGood(reals, "shuf v2,v2,v2", true);
        // The same register has one kind and one length: LONG of 4 or INT of 5, never INT of 4.
        String either = "set v0,l,4;set v1,i,4;jmp b;a: set v0,i,5;b: loop s0,a";
        isGood(either, "add v0,v1,v0", false);
        isGood(either, "shuf v0,v0,v0", true);
        isGood(either, "cast v0,v1", true);
        isGood(either, "get s0,v0,4", true);
        isGood(either, "get s0,v0,5", false);
    }

    private static void wrongInputs() {
        LaneMachine m = Check.with("end");
        Check.due("flow(0, 0)", m.flow(0, 0), 1);
        Check.due("flow(0, 9)", m.flow(0, 9), 1);
        Check.due("flow(0, 10)", m.flow(0, 10), -1);
        Check.due("flow(0, -1)", m.flow(0, -1), -1);
        Check.due("flow(1, 0)", m.flow(1, 0), -1);
        Check.due("flow(-1, 0)", m.flow(-1, 0), -1);
    }
}
