/** Promises 13 memory, 14 free, 15 resize, 16 poke, 17 peek, 18 array. */
public final class MemoryTest {
    public static void main(String[] args) {
        memory();
        limits();
        free();
        resize();
        pokeAndPeek();
        Check.finish();
    }

    private static void memory() {
        LaneMachine m = new LaneMachine();
        Check.due("no kind -1", m.memory(-1, 1), -1);
        Check.due("no kind 7", m.memory(7, 1), -1);
        Check.due("-1 elements", m.memory(0, -1), -1);
        Check.due("65 elements", m.memory(0, 65), -1);
        Check.due("none", m.count(3), 0);
        for (int kind = 0; kind < 7; kind++) {
            Check.due("memory", m.memory(kind, 9 * kind), kind);
            Check.due("its kind", m.array(kind, 0), kind);
            Check.due("its elements", m.array(kind, 1), 9 * kind);
        }
        Check.due("elements", m.count(3), 189);
        for (int i = 0; i < 54; i++) {
            Check.due("all 0", m.peek(6, i), 0);
        }
        Check.due("array(7, 0)", m.array(7, 0), -1);
        Check.due("array(7, 1)", m.array(7, 1), 0);
        Check.due("array(7, 2)", m.array(7, 2), -2);
        Check.due("array(0, -1)", m.array(0, -1), -2);
        Check.due("array(8, 0)", m.array(8, 0), -2);
        Check.due("array(-1, 0)", m.array(-1, 0), -2);
        m.memory(0, 0);
        Check.due("there are 8", m.memory(0, 0), -2);
        Check.due("no kind comes first", m.memory(9, 0), -1);
        m.poke(3, 5, 77);
        m.free(3);
        m.free(1);
        Check.due("the least that is NONE", m.memory(4, 64), 1);
        Check.due("then the next", m.memory(3, 27), 3);
        Check.due("all 0 again", m.peek(3, 5), 0);
    }

    private static void limits() {
        LaneMachine m = new LaneMachine();
        for (int k = 0; k < 6; k++) {
            Check.due("memory", m.memory(6, 64), k);
        }
        Check.due("401", m.memory(6, 17), -2);
        Check.due("400", m.memory(6, 16), 6);
        Check.due("elements", m.count(3), 400);
        Check.due("one more", m.memory(6, 1), -2);
        Check.due("none more", m.memory(6, 0), 7);
        Check.due("resize to 401", m.resize(6, 17), -2);
        Check.due("resize to 400", m.resize(6, 16), 16);
        Check.due("resize to 399", m.resize(6, 15), 16);
        Check.due("resize the last", m.resize(7, 1), 0);
        Check.due("resize the last", m.resize(7, 2), -2);
        Check.due("bounds come first", m.resize(7, 65), -1);
    }

    private static void free() {
        LaneMachine m = new LaneMachine();
        m.memory(3, 5);
        Check.due("free(1)", m.free(1), false);
        Check.due("free(-1)", m.free(-1), false);
        Check.due("free(8)", m.free(8), false);
        Check.due("free(0)", m.free(0), true);
        Check.due("free(0) again", m.free(0), false);
        Check.due("kind", m.array(0, 0), -1);
        Check.due("elements", m.array(0, 1), 0);
        Check.due("all elements", m.count(3), 0);
        m.memory(3, 0);
        Check.due("one without elements", m.free(0), true);
    }

    private static void resize() {
        LaneMachine m = new LaneMachine();
        m.memory(1, 3);
        for (int i = 0; i < 3; i++) {
            m.poke(0, i, 10 + i);
        }
        Check.due("resize(1, 2)", m.resize(1, 2), -1);
        Check.due("resize(8, 2)", m.resize(8, 2), -1);
        Check.due("resize(-1, 2)", m.resize(-1, 2), -1);
        Check.due("resize(0, -1)", m.resize(0, -1), -1);
        Check.due("resize(0, 65)", m.resize(0, 65), -1);
        Check.due("less", m.resize(0, 2), 3);
        Check.due("more", m.resize(0, 64), 2);
        for (int i = 0; i < 64; i++) {
            Check.due("element " + i, m.peek(0, i), i < 2 ? 10 + i : 0);
        }
        Check.due("to none", m.resize(0, 0), 64);
        Check.due("kind stays", m.array(0, 0), 1);
        Check.due("from none", m.resize(0, 1), 0);
        Check.due("element", m.peek(0, 0), 0);
    }

    private static void pokeAndPeek() {
        long v = 0x1234567890abcdefL;
        long[] low = {(byte) v, (short) v, (char) v, (int) v, v, Float.floatToIntBits((float) v),
            Double.doubleToLongBits((double) v)};
        LaneMachine m = new LaneMachine();
        for (int kind = 0; kind < 7; kind++) {
            m.memory(kind, 2);
            Check.due("poke", m.poke(kind, 1, v), true);
            Check.due("peek of kind " + kind, m.peek(kind, 1), low[kind]);
            Check.due("the other", m.peek(kind, 0), 0);
        }
        // Of two as near the even one, also as the least long goes below its size as a float.
        long[][] near = {{16777217, 16777216}, {16777219, 16777220}, {-16777217, -16777216}, {33554435, 33554436},
            {Long.MAX_VALUE, Long.MAX_VALUE}, {Long.MIN_VALUE, Long.MIN_VALUE}, {0, 0}, {-1, -1}};
        for (long[] n : near) {
            m.poke(5, 0, n[0]);
            Check.due("NEAREST to " + n[0], m.peek(5, 0), Float.floatToIntBits((float) n[1]));
        }
        m.poke(6, 0, (1L << 53) + 1);
        Check.due("even", m.peek(6, 0), Double.doubleToLongBits(0x1p53));
        m.poke(6, 0, (1L << 53) + 3);
        Check.due("even", m.peek(6, 0), Double.doubleToLongBits(0x1p53 + 4));
        Check.due("a FLOAT's BITS are an int", m.poke(5, 0, -2), true);
        Check.due("with its sign", m.peek(5, 0), -0x40000000L);
        int[][] none = {{-1, 0}, {8, 0}, {7, 0}, {0, -1}, {0, 2}, {Integer.MAX_VALUE, Integer.MIN_VALUE}};
        for (int[] n : none) {
            Check.due("poke none", m.poke(n[0], n[1], 5), false);
            Check.throwsIndex("peek none", () -> m.peek(n[0], n[1]));
        }
    }
}
