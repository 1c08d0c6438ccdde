/** "Terms", SLIM, and promises 7 slim and 8 restore: a test for each sentence that names a boundary. */
public final class SlimBoundsTest {
    public static void main(String[] args) {
        twins();
        ledTo();
        lastOnes();
        jumps();
        nots();
        againAndAgain();
        leads();
        greatest();
        slimBegins();
        restores();
        restoreIsRefused();
        Check.finish();
    }

    /** Slims the lines: how many go, and the program that is left (as if it were a text of its own). */
    private static void slims(String lines, int gone, String left) {
        LaneMachine m = Check.with(lines);
        LaneMachine want = Check.with(left);
        Check.due("slim of " + lines, m.slim(), gone);
        same(lines, m, want);
        Check.due("once more: " + lines, m.slim(), 0);
        Check.due("still so many of " + lines, m.count(0), want.count(0));
        m = Check.with(lines);
        m.slim();
        Check.due("restore of " + lines, m.restore(), gone > 0);
        same("restored " + lines, m, Check.with(lines));
    }

    /** Of long programs just numbers and two operands, as no object is called more than 512 times. */
    private static void same(String lines, LaneMachine m, LaneMachine want) {
        int instructions = m.count(0);
        Check.due("instructions of " + lines, instructions, want.count(0));
        for (int i = 0; i < Math.min(instructions, want.count(0)); i++) {
            for (int what = 0; what < (instructions > 60 ? 3 : 6); what++) {
                Check.due(lines + ": code(" + i + ", " + what + ")", m.code(i, what), want.code(i, what));
            }
        }
    }

    private static void stays(String lines) {
        slims(lines, 0, lines);
    }

    private static void twins() {
        Check.holds("SLIM a) both set of one register, both mov of one scalar, or both mset of one mask: i goes");
        slims("set v7,b,1;set v7,d,32;end", 1, "set v7,d,32;end");
        slims("mov s7,1;mov s7,1;end", 1, "mov s7,1;end");
        slims("mset m3,1;mset m3,0;end", 1, "mset m3,0;end");
        stays("set v7,b,1;set v6,b,1;set v7,b,1");
        stays("mov s7,1;mov s6,1;mov s7,1");
        stays("mset m3,1;mset m2,1;mset m3,1");
        stays("mov s1,1;mset m1,1;set v1,b,1;mov s1,1;mset m1,1");
        stays("mov s1,1;end;mov s1,1");
        stays("sadd s1,s2,s3;sadd s1,s2,s3;mcount s1,m1;mcount s1,m1;fill v1,s1;fill v1,s1;mov s1,1;sadd s1,s1,s1");
        stays("mand m0,m0,m0;mand m0,m0,m0;put v0,1,s0;put v0,1,s0;rev v0,v0;rev v0,v0;ret;ret;end;end");
    }

    private static void ledTo() {
        Check.holds("SLIM a) and no L leads to i + 1");
        String lines = "jmp a/jeq s0,s1,a/jne s0,s1,a/jlt s0,s1,a/jle s0,s1,a/loop s0,a/call a";
        for (String line : lines.split("/")) {
            stays("mov s0,1;a: mov s0,2;" + line);
            stays("set v0,b,1;a: set v0,b,2;end;" + line);
            stays("end;" + line + ";mset m0,1;a: mset m0,2");
            stays("mnot m0,m0;a: mnot m0,m0;" + line);
            slims("a: mov s0,1;mov s0,2;" + line, 1, "a: mov s0,2;" + line);
            slims("mov s0,1;mov s0,2;a: end;" + line, 1, "mov s0,2;a: end;" + line);
        }
        slims("mov s0,1;a: mov s0,2;jmp b;b:", 2, "mov s0,2");
    }

    private static void lastOnes() {
        Check.holds("SLIM: the last instruction has no next one");
        stays("mov s0,1");
        stays("set v0,b,1");
        stays("mset m0,1");
        stays("mnot m0,m0");
        stays("end");
        slims("mov s0,1;mov s0,2", 1, "mov s0,2");
        slims("mnot m0,m0;mnot m0,m0", 2, "");
        slims("", 0, "");
        LaneMachine m = new LaneMachine();
        Check.due("without a program", m.slim(), 0);
        Check.due("without a program", m.restore(), false);
    }

    private static void jumps() {
        Check.holds("SLIM b) it is a jmp to i + 1: i goes");
        slims("jmp a;a: end", 1, "end");
        slims("end;jmp a;a:", 1, "end");
        slims("jmp a;a:", 1, "");
        stays("a: jmp a");
        stays("jmp a;end;a: end");
        stays("a: end;jmp a");
        stays("jeq s0,s1,a;a: jne s0,s1,b;b: jlt s0,s1,c;c: jle s0,s1,d;d: loop s0,e;e: call f;f:");
        slims("jmp a;a: end;jmp a", 1, "a: end;jmp a");
    }

    private static void nots() {
        Check.holds("SLIM c) both mnot of one mask into itself, and no L leads to i + 1: both go");
        slims("mnot m3,m3;mnot m3,m3;end", 2, "end");
        stays("mnot m3,m3;mnot m2,m2");
        stays("mnot m3,m2;mnot m3,m2");
        stays("mnot m3,m2;mnot m3,m3");
        stays("mnot m3,m3;mnot m3,m2");
        stays("mnot m3,m2;mnot m2,m3");
        stays("mnot m3,m3;end;mnot m3,m3");
        slims("mnot m0,m0;mnot m0,m0;mnot m0,m0;end", 2, "mnot m0,m0;end");
        slims("mnot m0,m0;mnot m0,m0;mnot m0,m0;mnot m0,m0", 4, "");
        slims("a: mnot m0,m0;mnot m0,m0;jmp a", 2, "a: jmp a");
        // The first pair goes, not the second: what led to the third one leads there still.
        slims("mnot m0,m0;mnot m0,m0;a: mnot m0,m0;jmp a", 2, "a: mnot m0,m0;jmp a");
        slims("mnot m0,m0;a: mnot m0,m0;mnot m0,m0;jmp a", 2, "mnot m0,m0;a: jmp a");
    }

    private static void againAndAgain() {
        Check.holds("SLIM: again and again the first instruction i, from 0 on, of which one of these is so");
        slims("mov s0,1;mov s0,2;mov s0,3;mov s0,4;mov s0,5", 4, "mov s0,5");
        slims("mov s0,1;mnot m0,m0;mnot m0,m0;mov s0,2", 3, "mov s0,2");
        slims("mnot m0,m0;mov s0,1;mov s0,2;mnot m0,m0", 1, "mnot m0,m0;mov s0,2;mnot m0,m0");
        slims("mov s0,1;jmp a;a: mov s0,2", 2, "mov s0,2");
        slims("mnot m0,m0;jmp a;a: jmp b;b: mnot m0,m0;end", 4, "end");
        slims("jmp c;jmp b;b: jmp c;c: end", 3, "end");
        slims("jmp b;jmp b;jmp b;b: end", 3, "end");
        stays("jmp b;end;jmp c;b: end;c:");
        slims("mov s1,1;mnot m1,m1;mnot m0,m0;mnot m0,m0;mnot m1,m1;mov s1,2", 5, "mov s1,2");
    }

    private static void leads() {
        Check.holds("SLIM: What led to an instruction that goes, or behind it, leads to what it was about to come to");
        slims("end;a: mov s0,1;mov s0,2;b: end;jmp a;jmp b;c: call c;jmp e;e:", 2,
                "end;a: mov s0,2;b: end;jmp a;jmp b;c: call c");
        slims("z: end;a: jmp b;b: end;jmp a;jmp b;loop s0,a;jeq s0,s1,b;call z", 1,
                "z: end;a: end;jmp a;jmp a;loop s0,a;jeq s0,s1,a;call z");
        slims("z: end;a: mnot m0,m0;mnot m0,m0;b: end;jmp a;jle s0,s1,b;jmp e;jmp z;e:", 2,
                "z: end;a: end;jmp a;jle s0,s1,a;jmp e;jmp z;e:");
        slims("loop s0,e;mov s0,1;mov s0,2;e:", 1, "loop s0,e;mov s0,2;e:");
        slims("loop s0,e;jmp e;e:", 1, "loop s0,e;e:");
        // The L of what comes ahead is moved, too, and the program does the same.
        LaneMachine m = Check.with("jmp a;mov s1,1;mov s1,2;a: mov s2,3;mov s2,4;jmp b;b: end");
        Check.due("slim", m.slim(), 3);
        Check.due("run", m.run(9), 0);
        Check.due("STEPS", m.count(1), 3);
        Check.due("s1", m.scalarOf(1), 0);
        Check.due("s2", m.scalarOf(2), 4);
    }

    private static void greatest() {
        Check.holds("SLIM: of 100 instructions");
        StringBuilder text = new StringBuilder();
        for (int k = 0; k < 100; k++) {
            text.append("mov s0,").append(k).append(';');
        }
        slims(text.toString(), 99, "mov s0,99");
        slims("mnot m0,m0;".repeat(100), 100, "");
        slims("end;".repeat(59) + "mov s0,1;".repeat(41), 40, "end;".repeat(59) + "mov s0,1");
        slims("ret;".repeat(50) + "mnot m0,m0;".repeat(50), 50, "ret;".repeat(50));
        text = new StringBuilder();
        for (int k = 0; k < 40; k++) {
            text.append("jmp l").append(k).append(";l").append(k).append(": mov s1,").append(k).append(';');
        }
        slims(text + "end;".repeat(20), 79, "mov s1,39;" + "end;".repeat(20));
    }

    private static void slimBegins() {
        Check.holds("slim: how many instructions went; no break points are set; BEGIN");
        for (String line : new String[] {"mov s0,1;mov s0,2;add v0,v0,v0", "mov s0,2;add v0,v0,v0"}) {
            LaneMachine m = Check.with(line);
            m.stop(0, true);
            m.stop(1, true);
            Check.due("run", m.run(9) != 0, true);
            m.run(9);
            Check.due("slim", m.slim(), m.code(0, 2) == 2 && line.startsWith("mov s0,1") ? 1 : 0);
            for (int what : new int[] {1, 2, 4, 5, 6, 7, 8}) {
                Check.due("count " + what, m.count(what), 0);
            }
            Check.noFault("slim", m);
            Check.due("LABELS", m.count(10), 0);
        }
        LaneMachine m = Check.with("jmp a;a:");
        Check.due("slim", m.slim(), 1);
        Check.due("with 0 instructions it has ended", m.count(7), 1);
        Check.due("LABELS of the text stay", m.count(10), 1);
        Check.due("run", m.run(9), 0);
    }

    private static void restores() {
        Check.holds("restore: The program is again as assemble() made it, no break points are set, BEGIN: true");
        LaneMachine m = Check.with("set v0,b,1;set v0,b,2;mov s0,7;add v0,v0,v1");
        m.slim();
        m.stop(0, true);
        m.stop(1, true);
        m.run(9);
        m.run(9);
        Check.due("restore", m.restore(), true);
        Check.due("instructions", m.count(0), 4);
        for (int what : new int[] {1, 2, 4, 5, 6, 7, 8}) {
            Check.due("count " + what, m.count(what), 0);
        }
        Check.noFault("restored", m);
        Check.due("register", m.register(0, 0), -1);
        Check.due("scalars stay", m.scalarOf(0), 7);
        Check.due("restore again", m.restore(), false);
        Check.due("slim again", m.slim(), 1);
        Check.due("slim with 0 gone is no restore", m.slim(), 0);
        Check.due("restore again", m.restore(), true);
        m = Check.with("jmp a;a:");
        m.slim();
        Check.due("from 0 instructions", m.restore(), true);
        Check.due("it has not ended", m.count(7), 0);
        Check.due("L", m.code(0, 1), 1);
    }

    private static void restoreIsRefused() {
        Check.holds("restore: false, and nothing changes, if it was not slimmed (by 1 or more) since");
        LaneMachine m = Check.with("mov s0,1;mov s1,2;sdiv s2,s1,s2");
        Check.due("slim", m.slim(), 0);
        m.stop(2, true);
        m.run(9);
        m.run(9);
        Check.due("restore", m.restore(), false);
        Check.due("STEPS", m.count(1), 2);
        Check.due("list", m.count(4), 2);
        Check.due("PC", m.count(5), 2);
        Check.due("break points", m.count(8), 1);
        Check.fault("the FAULT", m, 5, 2, -1);
        Check.due("without a program", new LaneMachine().restore(), false);
        Check.holds("restore: since it was last as assemble() made it");
        Check.program(m, "jmp a;a:");
        m.slim();
        Check.due("a text with a FAULT", Check.assemble(m, "foo"), -1);
        Check.due("assemble is refused", m.assemble(1), -5000);
        Check.due("restore", m.restore(), true);
        m.slim();
        Check.due("another text", Check.assemble(m, "end"), 1);
        Check.due("it was not slimmed", m.restore(), false);
        Check.due("instructions", m.count(0), 1);
    }
}
