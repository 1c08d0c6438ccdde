/** Promises 19 scalar, 20 scalarOf, 21 register, 22 lane, 23 mask, 27 keep, 28 differs, 29 count. */
public final class StateTest {
    public static void main(String[] args) {
        scalars();
        registers();
        masks();
        differs();
        count();
        Check.finish();
    }

    private static void scalars() {
        LaneMachine m = new LaneMachine();
        for (int s = 0; s < 8; s++) {
            Check.due("scalar", m.scalar(s, Long.MIN_VALUE + s), true);
        }
        for (int s = 0; s < 8; s++) {
            Check.due("scalarOf", m.scalarOf(s), Long.MIN_VALUE + s);
        }
        Check.due("scalar(8)", m.scalar(8, 1), false);
        Check.due("scalar(-1)", m.scalar(-1, 1), false);
        Check.throwsIndex("scalarOf(8)", () -> m.scalarOf(8));
        Check.throwsIndex("scalarOf(-1)", () -> m.scalarOf(-1));
    }

    private static void registers() {
        LaneMachine m = Check.with("set v7,c,32;mov s0,-1;fill v7,s0;set v3,f,2;put v3,1,s0;neg v3,v3");
        m.run(100);
        Check.due("register(7, 0)", m.register(7, 0), 2);
        Check.due("register(7, 1)", m.register(7, 1), 32);
        Check.due("register(3, 0)", m.register(3, 0), 5);
        Check.due("register(0, 0)", m.register(0, 0), -1);
        Check.due("register(0, 1)", m.register(0, 1), 0);
        Check.due("register(0, 2)", m.register(0, 2), -2);
        Check.due("register(0, -1)", m.register(0, -1), -2);
        Check.due("register(8, 0)", m.register(8, 0), -2);
        Check.due("register(-1, 0)", m.register(-1, 0), -2);
        Check.due("lane(7, 31)", m.lane(7, 31), 65535);
        Check.due("lane(3, 0)", m.lane(3, 0), Integer.MIN_VALUE);
        Check.due("lane(3, 1)", m.lane(3, 1), Float.floatToIntBits(1));
        int[][] none = {{7, 32}, {7, -1}, {0, 0}, {8, 0}, {-1, 0}};
        for (int[] n : none) {
            Check.throwsIndex("lane none", () -> m.lane(n[0], n[1]));
        }
    }

    private static void masks() {
        LaneMachine m = Check.with("mset m3,4294967295;mset m0,2147483648;mset m1,5");
        m.run(100);
        Check.due("mask(3)", m.mask(3), -1);
        Check.due("mask(0)", m.mask(0), Integer.MIN_VALUE);
        Check.due("mask(1)", m.mask(1), 5);
        Check.due("mask(4)", m.mask(4), 0);
        Check.due("mask(-1)", m.mask(-1), 0);
    }

    private static void differs() {
        LaneMachine m = Check.with("mov s1,1;mset m1,1;set v1,d,2;neg v1,v1;set v1,d,2;set v1,d,3;set v1,l,2;end");
        Check.due("keep(4)", m.keep(4), false);
        Check.due("keep(-1)", m.keep(-1), false);
        Check.due("nothing kept", m.differs(0, 0), -1);
        Check.due("now", m.differs(-1, -1), 0);
        Check.due("none such", m.differs(-2, -1), -1);
        Check.due("none such", m.differs(-1, 4), -1);
        Check.due("keep(0)", m.keep(0), true);
        Check.due("the same", m.differs(0, -1), 0);
        m.memory(3, 1);
        Check.due("arrays", m.differs(-1, 0), 4);
        m.keep(1);
        m.poke(0, 0, 1);
        Check.due("an element", m.differs(1, -1), 4);
        m.poke(0, 0, 0);
        Check.due("the same again", m.differs(1, -1), 0);
        m.resize(0, 2);
        Check.due("more elements", m.differs(1, -1), 4);
        m.run(1);
        Check.due("scalars ahead of arrays", m.differs(1, -1), 3);
        m.run(1);
        Check.due("masks ahead of scalars", m.differs(1, -1), 2);
        m.run(1);
        Check.due("registers ahead of masks", m.differs(1, -1), 1);
        m.keep(3);
        Check.due("two that are kept", m.differs(3, 1), 1);
        m.run(1);
        Check.due("-0 is another one", m.differs(3, -1), 1);
        m.run(1);
        Check.due("0 again", m.differs(3, -1), 0);
        m.run(1);
        Check.due("another length", m.differs(3, -1), 1);
        m.run(1);
        Check.due("another kind", m.differs(3, -1), 1);
        m.keep(3);
        Check.due("in place of what was", m.differs(3, -1), 0);
        m.back();
        m.back();
        m.back();
        Check.due("what is kept stays", m.differs(3, -1), 1);
        m.keep(2);
        m.scalar(0, 5);
        Check.due("the first scalar", m.differs(-1, 2), 3);
        Check.program(m, "mset m0,1");
        m.keep(2);
        m.run(1);
        Check.due("the first mask", m.differs(2, -1), 2);
        m.free(0);
        m.memory(0, 1);
        m.keep(2);
        m.free(0);
        m.memory(1, 1);
        Check.due("an array's kind", m.differs(2, -1), 4);
    }

    private static void count() {
        LaneMachine m = Check.with("a:;b: set v0,i,5;call c;end;c: iota v0,s0;fill v0,s0 ?m0;d: end;end");
        m.memory(0, 7);
        m.memory(6, 8);
        m.stop(6, true);
        m.stop(5, true);
        m.watch(0, 0, true);
        m.watch(7, 63, true);
        m.watch(7, 0, true);
        m.feed(0, 0, 0, 0, 0);
        m.run(3);
        int[] want = {7, 3, 10, 15, 3, 4, 1, 0, 2, 3, 4, 20};
        for (int what = 0; what < 12; what++) {
            Check.due("count(" + what + ")", m.count(what), want[what]);
        }
        Check.due("count(12)", m.count(12), -1);
        Check.due("count(-1)", m.count(-1), -1);
        m.run(1);
        Check.due("no lane was ON", m.count(2), 10);
        m.run(10);
        Check.due("ended", m.count(7), 1);
        Check.due("the call is open", m.count(6), 1);
    }
}
