/** Promises 7 slim, 8 restore. */
public final class SlimTest {
    public static void main(String[] args) {
        twins();
        jumps();
        chains();
        restoring();
        Check.finish();
    }

    /** Slims the lines: how many go, and the program that is left. */
    private static void slims(String lines, int gone, String left) {
        LaneMachine m = Check.with(lines);
        LaneMachine want = Check.with(left);
        int labels = m.count(10);
        Check.due("slim of " + lines, m.slim(), gone);
        Check.due("instructions of " + lines, m.count(0), want.count(0));
        Check.due("labels of " + lines, m.count(10), labels);
        for (int i = 0; i < Math.min(m.count(0), want.count(0)); i++) {
            for (int what = 0; what < 6; what++) {
                Check.due(lines + ": code(" + i + ", " + what + ")", m.code(i, what), want.code(i, what));
            }
        }
        Check.due("restore of " + lines, m.restore(), gone > 0);
    }

    private static void twins() {
        slims("set v0,b,1;set v0,i,2", 1, "set v0,i,2");
        slims("set v0,b,1;set v1,i,2", 0, "set v0,b,1;set v1,i,2");
        slims("mov s0,1;mov s0,2;mov s1,3", 1, "mov s0,2;mov s1,3");
        slims("mset m1,1;mset m1,2;mset m0,2", 1, "mset m1,2;mset m0,2");
        slims("jmp a;mov s0,1;a: mov s0,2", 0, "jmp a;mov s0,1;a: mov s0,2");
        slims("mov s0,1;mset m0,2;mov s0,3", 0, "mov s0,1;mset m0,2;mov s0,3");
        slims("mov s0,1;a: mov s0,2;jmp a", 0, "mov s0,1;a: mov s0,2;jmp a");
        // A label alone is not in the way, nor is a jump to the first of them.
        slims("mov s0,1;a: mov s0,2;end", 1, "mov s0,2;end");
        slims("end;a: mov s0,1;mov s0,2;jmp a", 1, "end;a: mov s0,2;jmp a");
        slims("mnot m0,m0;mnot m0,m0;end", 2, "end");
        slims("mnot m0,m0;mnot m1,m1;end", 0, "mnot m0,m0;mnot m1,m1;end");
        slims("mnot m0,m1;mnot m0,m1;end", 0, "mnot m0,m1;mnot m0,m1;end");
        slims("mnot m0,m0;mnot m0,m1;end", 0, "mnot m0,m0;mnot m0,m1;end");
        slims("mnot m0,m0;a: mnot m0,m0;call a", 0, "mnot m0,m0;a: mnot m0,m0;call a");
        slims("a: mnot m0,m0;mnot m0,m0;call a", 2, "a: call a");
        slims("sadd s0,s0,s0;sadd s0,s0,s0", 0, "sadd s0,s0,s0;sadd s0,s0,s0");
    }

    private static void jumps() {
        slims("jmp a;a: end", 1, "end");
        slims("jmp a;a:", 1, "");
        slims("a: jmp a", 0, "a: jmp a");
        slims("end;a: jmp b;b: ret;jmp a;jmp b", 1, "end;b: ret;jmp b;jmp b");
        slims("jeq s0,s1,a;a: end", 0, "jeq s0,s1,a;a: end");
        slims("call a;a: end", 0, "call a;a: end");
        slims("loop s0,e;mov s1,1;mov s1,2;e:", 1, "loop s0,e;mov s1,2;e:");
    }

    private static void chains() {
        slims("mov s0,1;mov s0,2;mov s0,3;mov s0,4", 3, "mov s0,4");
        slims("mnot m0,m0;mnot m0,m0;mnot m0,m0", 2, "mnot m0,m0");
        // What goes brings others together, also ones further up.
        slims("mov s0,1;mnot m0,m0;mnot m0,m0;mov s0,2", 3, "mov s0,2");
        // The jump goes first; nothing leads to the second mnot then.
        slims("mnot m1,m1;jmp a;a: mnot m1,m1;end", 3, "end");
        slims("jmp b;jmp b;b: end", 2, "end");
    }

    private static void restoring() {
        LaneMachine m = Check.with("mov s0,1;mov s0,2;mov s1,3;end");
        Check.due("not slimmed", m.restore(), false);
        m.stop(2, true);
        m.run(2);
        Check.due("nothing changes", m.count(4), 2);
        Check.due("slim", m.slim(), 1);
        Check.due("no break points", m.count(8), 0);
        Check.due("PC", m.count(5), 0);
        Check.due("the list", m.count(4), 0);
        Check.due("scalars stay", m.scalarOf(0), 2);
        Check.due("slim again", m.slim(), 0);
        m.stop(1, true);
        m.run(1);
        Check.due("restore", m.restore(), true);
        Check.due("instructions", m.count(0), 4);
        Check.due("code", m.code(0, 2), 1);
        Check.due("no break points", m.count(8), 0);
        Check.due("steps", m.count(1), 0);
        Check.due("the list", m.count(4), 0);
        m.run(1);
        Check.due("restore again", m.restore(), false);
        Check.due("steps stay", m.count(1), 1);

        m = Check.with("end;end");
        m.stop(1, true);
        m.run(1);
        Check.due("nothing to slim", m.slim(), 0);
        Check.due("no break points all the same", m.count(8), 0);
        Check.due("begun all the same", m.count(1), 0);
        Check.due("the list all the same", m.count(4), 0);
        Check.due("restore", m.restore(), false);

        m = Check.with("jmp a;a:");
        Check.due("slim to nothing", m.slim(), 1);
        Check.due("it has ended", m.count(7), 1);
        Check.due("another text", Check.assemble(m, "end"), 1);
        Check.due("it was not slimmed since", m.restore(), false);
        Check.program(m, "jmp a;a: end");
        m.slim();
        Check.due("a text with a FAULT", Check.assemble(m, "foo"), -1);
        Check.due("is none", m.restore(), true);
        Check.due("instructions", m.count(0), 2);
    }
}
