/**
 * INSTRUCTIONS: which kinds and LENGTHS their registers must have (ALIKE, whole, REAL, INT, OF ONE LENGTH), tried with
 * all kinds on each operand; and FLOW's GOOD, which must say the same.
 */
public final class KindsBoundsTest {
    /** By number: A is ALIKE, W ALIKE and whole, R ALIKE and REAL, L OF ONE LENGTH; a sign for each register. */
    private static final String[] RULES = {
        "", "AAA", "AAA", "AAA", "AAA", "AAA", "AAA", "AAA", "WWW", "WWW", "WWW", "WW", "WW", "WW", "AA", "AA", "RR",
        "AA", "AA", "AA", "AA", "AA", "AA", "AAA", "LL", "wL", "Li", "Li", "L", "L", "L", "L", "AA", "AA", "AAi", "AA",
        "AA", "AAA", "AA", "AA", "AA", "W", "W", "W", "L", "L"};
    private static final int[] LENGTHS = {2, 3};

    public static void main(String[] args) {
        for (int op = 1; op < 46; op++) {
            allKinds(op);
            allLengths(op);
            nones(op);
            sameRegister(op);
        }
        arraysOfKinds();
        withoutRegisters();
        Check.finish();
    }

    /** The line with these registers; places, shifts and divisors are 1. */
    private static String line(int op, int... registers) {
        StringBuilder line = new StringBuilder(Model.WORDS[op]);
        String letters = Model.OPERANDS[op].replace("?", "");
        int seen = 0;
        for (int k = 0; k < letters.length(); k++) {
            char letter = letters.charAt(k);
            line.append(k == 0 ? ' ' : ',');
            switch (letter) {
                case 'V' -> line.append('v').append(registers[seen++]);
                case 'S' -> line.append("s0");
                case 'M' -> line.append("m0");
                case 'A' -> line.append("a0");
                default -> line.append('1');
            }
        }
        return line.toString();
    }

    private static String sets(int[] kinds, int[] lengths) {
        StringBuilder sets = new StringBuilder("mov s0,1;");
        for (int k = 0; k < kinds.length; k++) {
            if (kinds[k] >= 0) {
                sets.append("set v").append(k).append(',').append(Bench.KINDS.charAt(kinds[k])).append(',');
                sets.append(lengths[k]).append(";fill v").append(k).append(",s0;");
            }
        }
        return sets.toString();
    }

    /** Whether the rule of the instruction lets registers have these kinds. */
    private static boolean fits(String rule, int[] kinds) {
        for (int k = 0; k < rule.length(); k++) {
            char sign = rule.charAt(k);
            boolean whole = kinds[k] < 5;
            if (kinds[k] < 0 || (sign == 'A' || sign == 'W' || sign == 'R') && kinds[k] != kinds[0]
                    || (sign == 'W' || sign == 'w') && !whole || sign == 'R' && whole || sign == 'i' && kinds[k] != 3) {
                return false;
            }
        }
        return true;
    }

    /** Tries one line: its FAULT, and whether it is GOOD. */
    private static void tries(int op, String sets, String line, int kindOfArray, int fault) {
        LaneMachine m = new LaneMachine();
        m.memory(kindOfArray, 64);
        Check.program(m, sets + line);
        int last = m.count(0) - 1;
        Check.due(sets + line, m.run(100), fault);
        Check.fault(sets + line, m, fault, fault == 0 ? -1 : last, -1);
        Check.due("GOOD: " + sets + line, m.flow(last, 1), fault == 0 ? 1 : 0);
        Check.due("check: " + sets + line, m.check(), fault == 0 ? 0 : last + 1);
    }

    private static void allKinds(int op) {
        String rule = RULES[op];
        Check.holds(Model.WORDS[op] + ": KIND if kinds are not as told: " + rule);
        int all = (int) Math.pow(7, rule.length());
        for (int n = 0; n < all; n++) {
            int[] kinds = {n % 7, n / 7 % 7, n / 49};
            kinds = java.util.Arrays.copyOf(kinds, rule.length());
            int[] lengths = {2, 2, 2};
            int fault = fits(rule, kinds) ? 0 : 1;
            tries(op, sets(kinds, lengths), line(op, 0, 1, 2), kinds[0], fault);
        }
    }

    private static int[] fitting(String rule) {
        int[] kinds = new int[rule.length()];
        for (int k = 0; k < kinds.length; k++) {
            kinds[k] = rule.charAt(k) == 'R' ? 6 : 3;
        }
        return kinds;
    }

    private static void allLengths(int op) {
        String rule = RULES[op];
        for (int n = 0; n < 1 << rule.length(); n++) {
            int[] lengths = {LENGTHS[n & 1], LENGTHS[n >> 1 & 1], LENGTHS[n >> 2]};
            boolean one = n == 0 || n == (1 << rule.length()) - 1;
            Check.holds(Model.WORDS[op] + ": LENGTH if lengths are not as told");
            int[] kinds = fitting(rule);
            tries(op, sets(kinds, lengths), line(op, 0, 1, 2), kinds[0], one ? 0 : 2);
            Check.holds(Model.WORDS[op] + ": KIND is looked at ahead of LENGTH");
            for (int k = 0; k < rule.length(); k++) {
                kinds = fitting(rule);
                kinds[k] = -1;
                tries(op, sets(kinds, lengths), line(op, 0, 1, 2), 3, 1);
            }
        }
    }

    private static void nones(int op) {
        Check.holds(Model.WORDS[op] + ": KIND: a register of it is NONE");
        tries(op, "mov s0,1;", line(op, 0, 1, 2), 3, 1);
        tries(op, "mov s0,1;", line(op, 7, 7, 7), 3, 1);
    }

    private static void sameRegister(int op) {
        Check.holds(Model.WORDS[op] + ": a register that is named twice: the same one");
        String rule = RULES[op];
        for (int kind = 0; kind < 7; kind++) {
            int[] kinds = {kind, kind, kind};
            int fault = fits(rule, kinds) ? 0 : 1;
            tries(op, sets(new int[] {kind}, new int[] {2}), line(op, 0, 0, 0), kind, fault);
        }
    }

    private static void arraysOfKinds() {
        for (int op = 26; op < 30; op++) {
            for (int kind = 0; kind < 7; kind++) {
                for (int other = 0; other < 7; other++) {
                    Check.holds(Model.WORDS[op] + ": A is of V's kind, else KIND");
                    LaneMachine m = new LaneMachine();
                    m.memory(other, 64);
                    Check.program(m, sets(new int[] {kind, 3}, new int[] {2, 2}) + line(op, 0, 1));
                    Check.due("run", m.run(100), kind == other ? 0 : 1);
                    Check.holds("GOOD: arrays aside");
                    Check.due("check", m.check(), 0);
                    m.free(0);
                    m.begin();
                    Check.holds(Model.WORDS[op] + ": NULL: the array is NONE");
                    Check.due("run", m.run(100), 3);
                    Check.due("check", m.check(), 0);
                }
            }
        }
    }

    private static void withoutRegisters() {
        Check.holds("GOOD: an instruction without registers, and set, which asks nothing of its register");
        for (int op = 46; op < 68; op++) {
            String line = "l: " + Bench.line(op);
            LaneMachine m = Check.with(line);
            Check.due(line, m.flow(0, 1), 1);
            Check.due(line, m.check(), 0);
        }
        LaneMachine m = Check.with("set v0,b,1;set v0,d,32");
        Check.due("set of NONE", m.flow(0, 1), 1);
        Check.due("set of another kind", m.flow(1, 1), 1);
    }
}
