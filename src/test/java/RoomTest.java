import java.lang.management.ManagementFactory;
import java.lang.reflect.Array;
import java.lang.reflect.Field;
import java.lang.reflect.Modifier;
import java.util.ArrayDeque;
import java.util.IdentityHashMap;

/** LANGUAGE.md, rule 12: all calls of one run live in one room, so rows are made once and used again. */
public final class RoomTest {
    private static final int ROOM = 7_300_000;
    private static final int OBJECTS_IN_ROOM = 600_000;
    private static int objects;
    private static int cells;

    public static void main(String[] args) throws IllegalAccessException {
        made();
        calls();
        Check.finish();
    }

    /** The fields and elements of all that an object holds. */
    private static void measure(Object root) throws IllegalAccessException {
        IdentityHashMap<Object, Boolean> seen = new IdentityHashMap<>();
        ArrayDeque<Object> open = new ArrayDeque<>();
        open.add(root);
        objects = 0;
        cells = 0;
        while (!open.isEmpty()) {
            Object o = open.remove();
            if (seen.put(o, true) != null) {
                continue;
            }
            objects++;
            if (o.getClass().isArray()) {
                cells += Array.getLength(o);
                for (int i = 0; o instanceof Object[] && i < Array.getLength(o); i++) {
                    open.add(Array.get(o, i));
                }
            } else {
                fields(o, open);
            }
        }
    }

    private static void fields(Object o, ArrayDeque<Object> open) throws IllegalAccessException {
        for (Field field : o.getClass().getDeclaredFields()) {
            if (Modifier.isStatic(field.getModifiers())) {
                continue;
            }
            cells++;
            if (!field.getType().isPrimitive() && o.getClass().getName().startsWith("LaneMachine")) {
                field.setAccessible(true);
                if (field.get(o) != null) {
                    open.add(field.get(o));
                }
            }
        }
    }

    private static void made() throws IllegalAccessException {
        Check.holds("rule 12: what a run makes is counted: keep it small");
        measure(new LaneMachine());
        Check.due("a hundred objects have room (" + cells + " fields and elements each)", cells < ROOM / 100, true);
        Check.due("a hundred objects have room (" + objects + " of them each)", objects < OBJECTS_IN_ROOM / 100, true);
    }

    private static void calls() {
        Check.holds("rule 12: calls make no objects");
        LaneMachine m = Check.with("set v0,d,32;set v1,i,32;iota v1,s7;a: iota v0,s0;scan v0,v0;store v0,a0,s7;"
                + "sqrt v0,v0;sort v0,v0;call f;jmp a;f: cast v1,v0;ret;mov s0,1;mov s0,2");
        m.memory(6, 64);
        // The first time, what a class keeps for its enums is made.
        dearCalls(m, 1);
        var threads = (com.sun.management.ThreadMXBean) ManagementFactory.getThreadMXBean();
        long id = Thread.currentThread().getId();
        threads.getThreadAllocatedBytes(id);
        long ahead = threads.getThreadAllocatedBytes(id);
        dearCalls(m, 30);
        long bytes = threads.getThreadAllocatedBytes(id) - ahead;
        Check.due("so many calls make " + bytes + " bytes: few", bytes < 2000, true);
    }

    private static void dearCalls(LaneMachine m, int times) {
        for (int k = 0; k < times; k++) {
            m.run(2000);
            m.back();
            m.check();
            m.flow(3, 2);
            m.keep(k & 3);
            m.differs(k & 3, -1);
            m.resize(0, 64);
            m.slim();
            m.restore();
            m.feed(0x656e640a, 0x656e640a, 0x656e640a, 0x656e640a, 0x656e640a);
        }
        m.assemble(-1);
    }
}
