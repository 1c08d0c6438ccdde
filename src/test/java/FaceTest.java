import java.lang.reflect.Constructor;
import java.lang.reflect.Field;
import java.lang.reflect.Method;
import java.lang.reflect.Modifier;
import java.util.Arrays;
import java.util.TreeSet;

/** "The public face": just these members, and 512 calls of an object. */
public final class FaceTest {
    private static final String FACE = "public boolean LaneMachine.feed(int,int,int,int,int)\n"
            + "public int LaneMachine.assemble(int)\n"
            + "public long LaneMachine.code(int,int) throws java.lang.IndexOutOfBoundsException\n"
            + "public int LaneMachine.check()\n"
            + "public int LaneMachine.flow(int,int)\n"
            + "public int LaneMachine.slim()\n"
            + "public boolean LaneMachine.restore()\n"
            + "public void LaneMachine.begin()\n"
            + "public int LaneMachine.run(int) throws java.lang.IllegalArgumentException\n"
            + "public int LaneMachine.back()\n"
            + "public int LaneMachine.fault(int)\n"
            + "public int LaneMachine.memory(int,int)\n"
            + "public boolean LaneMachine.free(int)\n"
            + "public int LaneMachine.resize(int,int)\n"
            + "public boolean LaneMachine.poke(int,int,long)\n"
            + "public long LaneMachine.peek(int,int) throws java.lang.IndexOutOfBoundsException\n"
            + "public int LaneMachine.array(int,int)\n"
            + "public boolean LaneMachine.scalar(int,long)\n"
            + "public long LaneMachine.scalarOf(int) throws java.lang.IndexOutOfBoundsException\n"
            + "public int LaneMachine.register(int,int)\n"
            + "public long LaneMachine.lane(int,int) throws java.lang.IndexOutOfBoundsException\n"
            + "public int LaneMachine.mask(int)\n"
            + "public boolean LaneMachine.stop(int,boolean)\n"
            + "public boolean LaneMachine.watch(int,int,boolean)\n"
            + "public int LaneMachine.trace(int,int)\n"
            + "public boolean LaneMachine.keep(int)\n"
            + "public int LaneMachine.differs(int,int)\n"
            + "public int LaneMachine.count(int)";

    public static void main(String[] args) {
        members();
        lastOfManyCalls();
        numbersFarOff();
        Check.finish();
    }

    private static void members() {
        Check.holds("The public face: these members, and no others");
        Check.due("public and final", LaneMachine.class.getModifiers(), Modifier.PUBLIC | Modifier.FINAL);
        TreeSet<String> want = new TreeSet<>(Arrays.asList(FACE.split("\n")));
        TreeSet<String> got = new TreeSet<>();
        for (Method method : LaneMachine.class.getDeclaredMethods()) {
            if (!Modifier.isPrivate(method.getModifiers()) && !method.isSynthetic()) {
                got.add(method.toString());
            }
        }
        Check.due("methods " + got, got.equals(want), true);
        Constructor<?>[] made = LaneMachine.class.getDeclaredConstructors();
        Check.due("constructors", made.length, 1);
        Check.due("its operands", made[0].getParameterCount(), 0);
        Check.due("it is public", Modifier.isPublic(made[0].getModifiers()), true);
        for (Field field : LaneMachine.class.getDeclaredFields()) {
            Check.due("private: " + field, Modifier.isPrivate(field.getModifiers()) || field.isSynthetic(), true);
        }
    }

    private static void lastOfManyCalls() {
        Check.holds("An object is used for at most 512 calls: the 512th is as good as the first");
        LaneMachine m = new LaneMachine();
        m.memory(3, 1);
        for (int call = 2; call <= 509; call++) {
            m.poke(0, 0, call);
        }
        Check.due("call 510", m.peek(0, 0), 509);
        Check.due("call 511", m.scalar(7, 5), true);
        Check.due("call 512", m.scalarOf(7), 5);
        LaneMachine runs = Check.with("a: set v0,l,32;iota v0,s0;half v0,v0;jmp a");
        for (int call = 5; call <= 511; call++) {
            runs.run(2000);
        }
        Check.due("steps at call 512", runs.count(1), 507 * 2000);
    }

    /** No index, place or kind that a call names may break the machine, however far off it is. */
    private static void numbersFarOff() {
        Check.holds("a refused call: numbers far off are none such");
        LaneMachine m = Check.with("end");
        m.memory(3, 1);
        int[] far = {Integer.MIN_VALUE, Integer.MIN_VALUE + 1, -1000, 1000, Integer.MAX_VALUE - 1, Integer.MAX_VALUE};
        for (int n : far) {
            Check.due("assemble", m.assemble(n), -5000);
            Check.due("flow", m.flow(n, 0), -1);
            Check.due("flow what", m.flow(0, n), -1);
            Check.due("fault", m.fault(n), 0);
            Check.due("memory kind", m.memory(n, 1), -1);
            Check.due("memory", m.memory(1, n), -1);
            Check.due("free", m.free(n), false);
            Check.due("resize", m.resize(n, 1), -1);
            Check.due("resize to", m.resize(0, n), -1);
            Check.due("poke", m.poke(n, 0, 1), false);
            Check.due("poke at", m.poke(0, n, 1), false);
            Check.due("array", m.array(n, 0), -2);
            Check.due("array what", m.array(0, n), -2);
            Check.due("scalar", m.scalar(n, 1), false);
            Check.due("register", m.register(n, 0), -2);
            Check.due("register what", m.register(0, n), -2);
            Check.due("mask", m.mask(n), 0);
            Check.due("stop", m.stop(n, true), false);
            Check.due("watch", m.watch(n, 0, true), false);
            Check.due("watch at", m.watch(0, n, true), false);
            Check.due("trace", m.trace(n, 0), -1);
            Check.due("trace what", m.trace(0, n), -1);
            Check.due("keep", m.keep(n), false);
            Check.due("differs", m.differs(n, -1), -1);
            Check.due("differs from", m.differs(-1, n), -1);
            Check.due("count", m.count(n), -1);
            thrown(m, n);
        }
    }

    private static void thrown(LaneMachine m, int n) {
        Check.throwsIndex("code", () -> m.code(n, 0));
        Check.throwsIndex("code what", () -> m.code(0, n));
        Check.throwsIndex("peek", () -> m.peek(n, 0));
        Check.throwsIndex("peek at", () -> m.peek(0, n));
        Check.throwsIndex("scalarOf", () -> m.scalarOf(n));
        Check.throwsIndex("lane", () -> m.lane(n, 0));
        Check.throwsIndex("lane at", () -> m.lane(0, n));
        if (n < 0 || n > 2000) {
            Check.throwsArgument("run", () -> m.run(n));
        }
    }
}
