import java.nio.charset.StandardCharsets;

/** What the tests share: answers are compared, wrong ones are printed, and the exit code tells. */
final class Check {
    private static int wrong;
    private static int checks;
    private static String sentence = "";

    private Check() {
    }

    /** The sentence of the document that the answers from here on hold; it is told with each wrong one. */
    static void holds(String words) {
        sentence = words;
    }

    static void due(String what, long got, long want) {
        checks++;
        if (got != want) {
            wrong++;
            System.out.println((sentence.isEmpty() ? "" : "[" + sentence + "] ") + what + " answered " + got
                    + ", due is " + want);
        }
    }

    static void due(String what, boolean got, boolean want) {
        due(what, got ? 1 : 0, want ? 1 : 0);
    }

    /** The end of every test's main method. */
    static void finish() {
        if (wrong > 0 || checks == 0) {
            System.out.println(wrong + " of " + checks + " answers are not as due");
            System.exit(1);
        }
        System.out.println(checks + " answers are as due");
    }

    interface Call {
        void make();
    }

    static void throwsIndex(String what, Call call) {
        boolean thrown = false;
        try {
            call.make();
        } catch (IndexOutOfBoundsException e) {
            thrown = e.getClass() == IndexOutOfBoundsException.class;
        }
        due(what + " throws IndexOutOfBoundsException", thrown, true);
    }

    static void throwsArgument(String what, Call call) {
        boolean thrown = false;
        try {
            call.make();
        } catch (IllegalArgumentException e) {
            thrown = e.getClass() == IllegalArgumentException.class;
        }
        due(what + " throws IllegalArgumentException", thrown, true);
    }

    /** The LENGTH and the lanes of a register. */
    static void lanes(String what, LaneMachine m, int v, long... want) {
        due(what + ": LENGTH of v" + v, m.register(v, 1), want.length);
        for (int i = 0; i < Math.min(m.register(v, 1), want.length); i++) {
            due(what + ": v" + v + " lane " + i, m.lane(v, i), want[i]);
        }
    }

    /** How many elements an array has, and which. */
    static void elements(String what, LaneMachine m, int a, long... want) {
        due(what + ": elements of a" + a, m.array(a, 1), want.length);
        for (int i = 0; i < Math.min(m.array(a, 1), want.length); i++) {
            due(what + ": a" + a + " element " + i, m.peek(a, i), want[i]);
        }
    }

    /** All that fault() tells. */
    static void fault(String what, LaneMachine m, int fault, int place, int lane) {
        due(what + ": fault(0)", m.fault(0), fault);
        due(what + ": fault(1)", m.fault(1), place);
        due(what + ": fault(2)", m.fault(2), lane);
    }

    static void noFault(String what, LaneMachine m) {
        fault(what, m, 0, -1, -1);
    }

    static long d(double d) {
        return Double.doubleToRawLongBits(d);
    }

    static long f(double f) {
        return Float.floatToRawIntBits((float) f);
    }

    /** Feeds the text, with blanks behind it to fill the last twenty bytes. */
    static void feed(LaneMachine machine, String text) {
        feed(machine, text.getBytes(StandardCharsets.ISO_8859_1));
    }

    static void feed(LaneMachine machine, byte[] bytes) {
        for (int from = 0; from < bytes.length; from += 20) {
            int[] words = new int[5];
            for (int i = 0; i < 20; i++) {
                int b = from + i < bytes.length ? bytes[from + i] & 255 : ' ';
                words[i / 4] = words[i / 4] << 8 | b;
            }
            due("feed", machine.feed(words[0], words[1], words[2], words[3], words[4]), true);
        }
    }

    /** What assemble() answers for just this text. */
    static int assemble(LaneMachine machine, String text) {
        feed(machine, text);
        return machine.assemble(text.length());
    }

    /** A new machine with this program; the lines have ; between them instead of line feeds. */
    static LaneMachine with(String lines) {
        LaneMachine machine = new LaneMachine();
        program(machine, lines);
        return machine;
    }

    static void program(LaneMachine machine, String lines) {
        due("assembling " + lines, assemble(machine, lines.replace(';', '\n')) >= 0, true);
    }
}
