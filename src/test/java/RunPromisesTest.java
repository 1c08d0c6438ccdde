/** Promises 1 to 4 and 9 to 12, 24 to 26: a test for each sentence that names a boundary. (5 to 8: Flow, Slim.) */
public final class RunPromisesTest {
    private static final String LOOP = "a: sadd s0,s0,s1;mov s2,3;jmp a";

    public static void main(String[] args) {
        feed();
        feedOfBytes();
        assembleOfTooMany();
        assembleOfSome();
        assembleMakesAll();
        assembleWithFault();
        code();
        codeThrows();
        runAnswers();
        runOfSteps();
        runThrows();
        runStops();
        runOrder();
        watchedChanges();
        watchedByFault();
        watchedAtTheEnd();
        watchedParts();
        back();
        faultStays();
        faultOfOther();
        stop();
        watch();
        watchesStay();
        trace();
        Check.finish();
    }

    private static void feed() {
        Check.holds("feed: Twenty bytes come onto the tape; False, and none comes, if it has not room for all");
        LaneMachine m = new LaneMachine();
        for (int k = 1; k <= 200; k++) {
            Check.due("feed " + k, m.feed(k, 0, 0, 0, 0), true);
            Check.due("bytes", m.count(11), 20 * k);
        }
        for (int k = 0; k < 3; k++) {
            Check.due("no room", m.feed(0, 0, 0, 0, 0), false);
            Check.due("none comes", m.count(11), 4000);
        }
        Check.due("n 0 makes it empty", m.assemble(0), 0);
        Check.due("bytes", m.count(11), 0);
        Check.due("room", m.feed(0, 0, 0, 0, 0), true);
    }

    private static void feedOfBytes() {
        Check.holds("feed: four in each number, the highest first");
        LaneMachine m = new LaneMachine();
        // "mset m3,1234567;" and a comment of bytes 128 .. 255.
        m.feed(0x6d736574, 0x206d332c, 0x31323334, 0x3536373b, 0x80ff7fff);
        m.feed(0xffffffff, 0x80808080, 0x0a656e64, 0x0a202020, 0x656e6420);
        Check.due("assemble", m.assemble(39), 3);
        Check.due("N", m.code(0, 2), 1234567);
        for (int place = 0; place < 20; place++) {
            m = new LaneMachine();
            int[] w = {0x20202020, 0x20202020, 0x20202020, 0x20202020, 0x20202020};
            w[place / 4] ^= (0x20 ^ 0xff) << 24 - 8 * (place % 4);
            m.feed(w[0], w[1], w[2], w[3], w[4]);
            Check.due("the byte at " + place, m.assemble(20), -1 - place);
        }
    }

    private static void assembleOfTooMany() {
        Check.holds("assemble: -5000, and nothing happens, if n is not 0 .. how many bytes the tape has");
        LaneMachine m = Check.with("mov s0,1;mov s1,2;sdiv s2,s1,s3");
        Check.due("an empty tape", m.assemble(1), -5000);
        Check.feed(m, "end\nend\nend\nend\nend\n");
        m.stop(1, true);
        m.run(1);
        m.run(9);
        for (int n : new int[] {-1, 21, 4000, 4001, Integer.MAX_VALUE, Integer.MIN_VALUE}) {
            Check.due("assemble(" + n + ")", m.assemble(n), -5000);
        }
        Check.due("tape", m.count(11), 20);
        Check.due("program", m.count(0), 3);
        Check.due("STEPS", m.count(1), 2);
        Check.due("list", m.count(4), 2);
        Check.due("break points", m.count(8), 1);
        Check.fault("FAULT", m, 5, 2, -1);
        Check.due("all of it", m.assemble(20), 5);
    }

    private static void assembleOfSome() {
        Check.holds("assemble: The first n bytes of the tape, which is empty then, are a TEXT");
        int[] want = {0, -1, -1, 1, 1, -5, -5, 2, 2};
        for (int n = 0; n < want.length; n++) {
            LaneMachine m = new LaneMachine();
            Check.feed(m, "end\nend\nend\nend\nend\n");
            Check.due("assemble(" + n + ")", m.assemble(n), want[n]);
            Check.due("the tape is empty", m.count(11), 0);
            Check.due("instructions", m.count(0), Math.max(0, want[n]));
        }
        Check.holds("assemble: The first n bytes: what comes behind them does not count");
        String line = "a: mov s0,123";
        int[] answers = {0, -1, 0, 0, -4, -4, -7, -8, -8, -10, -11, 1, 1, 1};
        for (int n = 0; n <= line.length(); n++) {
            LaneMachine m = new LaneMachine();
            Check.feed(m, line);
            Check.due("<" + line.substring(0, n) + ">", m.assemble(n), answers[n]);
            if (answers[n] == 1) {
                Check.due("N", m.code(0, 2), Integer.parseInt(line.substring(10, n)));
            }
        }
    }

    private static void assembleMakesAll() {
        Check.holds("assemble: it is the program then, no break points are set, BEGIN");
        LaneMachine m = Check.with("set v0,b,3;mset m0,5;call f;f: sdiv s0,s0,s0");
        m.stop(0, true);
        m.stop(3, true);
        m.run(3);
        m.run(9);
        Check.due("assemble", Check.assemble(m, "a:end\nb:\nc:"), 1);
        int[] want = {1, 0, 0, 0, 0, 0, 0, 0, 0, 0, 3, 0};
        for (int what = 0; what < 12; what++) {
            Check.due("count " + what, m.count(what), want[what]);
        }
        Check.noFault("begun", m);
        Check.due("register", m.register(0, 0), -1);
        Check.due("mask", m.mask(0), 0);
        Check.due("break point of another program", m.stop(0, false), false);
        Check.due("no instructions", Check.assemble(m, "\n"), 0);
        Check.due("ended", m.count(7), 1);
    }

    private static void assembleWithFault() {
        Check.holds("assemble: Or -1 less the place of its FAULT: nothing else changes (but the tape: it is empty)");
        LaneMachine m = Check.with("a: set v0,b,3;mset m0,5;call f;f: sdiv s0,s0,s0");
        m.memory(0, 1);
        m.stop(3, true);
        m.run(3);
        m.run(9);
        m.keep(0);
        int[] ahead = new int[11];
        for (int what = 0; what < 11; what++) {
            ahead[what] = m.count(what);
        }
        String[] texts = {"!", "end\nx: y: z:\nfoo", "set v0,b,2\nset v0,b,33", "l1:\nl2:\njmp nowhere"};
        int[] want = {-1, -8, -21, -13};
        for (int k = 0; k < 4; k++) {
            Check.due(texts[k], Check.assemble(m, texts[k]), want[k]);
            for (int what = 0; what < 11; what++) {
                Check.due("count " + what, m.count(what), ahead[what]);
            }
            Check.due("the tape is empty", m.count(11), 0);
            Check.fault("the FAULT stays", m, 5, 3, -1);
            Check.due("state", m.differs(0, -1), 0);
            Check.due("the program", m.code(0, 3), 3);
            Check.due("break points", m.stop(3, true), false);
        }
        Check.due("it can go back", m.back(), 2);
        Check.due("slim is of the old one", m.slim(), 0);
        Check.due("place 0", Check.assemble(m, "foo"), -1);
        LaneMachine far = new LaneMachine();
        Check.feed(far, " ".repeat(3999) + "!");
        Check.due("the last place", far.assemble(4000), -4000);
        Check.feed(far, " ".repeat(3996) + "jmp ");
        Check.due("the text's size", far.assemble(4000), -4001);
    }

    private static void code() {
        Check.holds("code: what 0: its number; 1 .. 4: its operands; -1 for none; 5: the mask behind ?, -1 without");
        LaneMachine m = Check.with("set v7,d,32;sel v1,m2,v3,v4;get s7,v6,31;put v5,0,s4;mov s3,-999999999999999999;"
                + "mset m3,4294967295;scatter v2,a7,v3 ?m3;load v0,a0,s0 ?m0;jle s6,s7,e;loop s5,a;a: call a;jmp e;ret;"
                + "end;e:");
        long[][] want = {{0, 7, 6, 32, -1, -1}, {23, 1, 2, 3, 4, -1}, {44, 7, 6, 31, -1, -1}, {45, 5, 0, 4, -1, -1},
            {53, 3, -999999999999999999L, -1, -1, -1}, {50, 3, 4294967295L, -1, -1, -1}, {27, 2, 7, 3, -1, 3},
            {28, 0, 0, 0, -1, 0}, {63, 6, 7, 14, -1, -1}, {64, 5, 10, -1, -1, -1}, {65, 10, -1, -1, -1, -1},
            {59, 14, -1, -1, -1, -1}, {66, -1, -1, -1, -1, -1}, {67, -1, -1, -1, -1, -1}};
        for (int i = 0; i < want.length; i++) {
            for (int what = 0; what < 6; what++) {
                Check.due("code(" + i + ", " + what + ")", m.code(i, what), want[i][what]);
            }
        }
    }

    private static void codeThrows() {
        Check.holds("code: Throws IndexOutOfBoundsException if there is no such instruction, or what");
        LaneMachine m = Check.with("end;end");
        int[][] none = {{-1, 0}, {2, 0}, {0, -1}, {0, 6}, {1, 6}, {2, 6}, {99, 0}, {100, 0}, {Integer.MAX_VALUE, 0},
            {Integer.MIN_VALUE, 0}, {0, Integer.MAX_VALUE}};
        for (int[] n : none) {
            Check.throwsIndex("code(" + n[0] + ", " + n[1] + ")", () -> m.code(n[0], n[1]));
        }
        LaneMachine fresh = new LaneMachine();
        Check.throwsIndex("without a program", () -> fresh.code(0, 0));
        LaneMachine slim = Check.with("jmp a;a: end");
        slim.slim();
        Check.throwsIndex("of what went", () -> slim.code(1, 0));
        Check.due("of what is left", slim.code(0, 0), 67);
    }

    private static void runAnswers() {
        Check.holds("run: 0 when it has ended (nothing is done, if it had already)");
        LaneMachine m = Check.with("mov s0,1;end;mov s0,2");
        Check.due("one ahead of the end", m.run(1), -1);
        Check.due("the end", m.run(1), 0);
        for (int steps : new int[] {0, 1, 2000}) {
            Check.due("had already", m.run(steps), 0);
            Check.due("nothing is done", m.count(1), 2);
            Check.due("list", m.count(4), 2);
            Check.due("PC", m.count(5), 2);
        }
        LaneMachine fresh = new LaneMachine();
        Check.due("without a program", fresh.run(0), 0);
        Check.due("without a program", fresh.run(2000), 0);
    }

    private static void runOfSteps() {
        Check.holds("run: else -1 when so many STEPS were done");
        LaneMachine m = Check.with(LOOP);
        int done = 0;
        for (int steps : new int[] {0, 1, 2, 3, 63, 64, 65, 1999, 2000, 0}) {
            Check.due("run(" + steps + ")", m.run(steps), -1);
            done += steps;
            Check.due("STEPS", m.count(1), done);
        }
        Check.due("it goes on where it was", m.count(5), done % 3);
        m = Check.with("mov s0,1;mov s0,2");
        Check.due("ended ahead of -1", m.run(2), 0);
        m.begin();
        Check.due("-1", m.run(1), -1);
    }

    private static void runThrows() {
        Check.holds("run: Throws IllegalArgumentException if steps are not 0 .. 2000");
        LaneMachine m = Check.with(LOOP);
        for (int steps : new int[] {-1, 2001, Integer.MIN_VALUE, Integer.MAX_VALUE}) {
            Check.throwsArgument("run(" + steps + ")", () -> m.run(steps));
            Check.due("nothing is done", m.count(1), 0);
        }
        LaneMachine ended = Check.with("end");
        ended.run(1);
        Check.throwsArgument("ended", () -> ended.run(-1));
        LaneMachine fresh = new LaneMachine();
        Check.throwsArgument("without a program", () -> fresh.run(2001));
    }

    private static void runStops() {
        Check.holds("run: -2 ahead of an instruction with a break point (but for the first one of this call)");
        LaneMachine m = Check.with(LOOP);
        m.stop(0, true);
        Check.due("the first one of this call", m.run(2000), -2);
        Check.due("a round", m.count(1), 3);
        Check.due("PC", m.count(5), 0);
        m.stop(1, true);
        m.stop(2, true);
        for (int k = 1; k <= 6; k++) {
            Check.due("all of them", m.run(2000), -2);
            Check.due("a STEP", m.count(1), 3 + k);
        }
        m = Check.with("a: jmp a");
        m.stop(0, true);
        Check.due("the same one again", m.run(2000), -2);
        Check.due("a STEP", m.count(1), 1);
        m = Check.with("mov s0,1;end");
        m.stop(1, true);
        Check.due("ahead of end", m.run(9), -2);
        Check.due("not ended", m.count(7), 0);
        Check.due("end", m.run(9), 0);
    }

    private static void runOrder() {
        Check.holds("run: looked at in this order: 0, -1, -2 ahead of each instruction");
        LaneMachine m = Check.with("mov s0,1;mov s0,2;mov s0,3");
        m.stop(1, true);
        m.stop(2, true);
        Check.due("-1 ahead of -2", m.run(1), -1);
        Check.due("run(0)", m.run(0), -1);
        Check.due("-2", m.run(2), -2);
        Check.due("0 ahead of -1", m.run(1), 0);
        m = Check.with("sdiv s0,s0,s0;end");
        m.stop(0, true);
        Check.due("a FAULT", m.run(1), 5);
        Check.due("-1 ahead of a FAULT", m.run(0), -1);
        m = Check.with("mov s0,1;sdiv s1,s0,s1");
        m.stop(1, true);
        Check.due("-1 ahead of a FAULT", m.run(1), -1);
        m.begin();
        Check.due("-2 ahead of a FAULT", m.run(9), -2);
        Check.due("then the FAULT", m.run(9), 5);
    }

    /** A machine with an array of 4 INTS that stores ahead of three more instructions. */
    private static LaneMachine storing() {
        LaneMachine m = Check.with("set v0,i,2;iota v0,s0;store v0,a0,s1;mov s7,1;store v0,a0,s1;end");
        m.memory(3, 4);
        m.scalar(0, 5);
        return m;
    }

    private static void watchedChanges() {
        Check.holds("run: -3 behind one by which the BITS of a watched element became others");
        LaneMachine m = storing();
        m.watch(0, 1, true);
        Check.due("behind the store", m.run(99), -3);
        Check.due("PC", m.count(5), 3);
        Check.due("it is done", m.peek(0, 1), 6);
        Check.due("the same BITS again", m.run(99), 0);
        m = storing();
        m.watch(0, 2, true);
        m.watch(0, 3, true);
        Check.due("others become others", m.run(99), 0);
        m = storing();
        m.watch(0, 0, true);
        Check.due("-3 ahead of -1", m.run(3), -3);
        m = storing();
        m.watch(0, 0, true);
        m.stop(3, true);
        Check.due("-3 ahead of -2", m.run(99), -3);
        Check.due("the break point is the first one then", m.run(1), -1);
        m = storing();
        m.watch(0, 0, true);
        m.watch(0, 0, false);
        Check.due("not watched any more", m.run(99), 0);
        m = storing();
        m.watch(1, 0, true);
        Check.due("of another array", m.run(99), 0);
        m = new LaneMachine();
        Check.program(m, "set v0,b,32;mov s1,32;mov s2,1;fill v0,s2;store v0,a7,s1 ?m0;mset m0,2147483648;"
                + "store v0,a7,s1 ?m0;end");
        for (int a = 0; a < 7; a++) {
            m.memory(0, 0);
        }
        m.memory(0, 64);
        m.watch(7, 63, true);
        Check.due("the last element", m.run(99), -3);
        Check.due("PC", m.count(5), 7);
        Check.holds("-3: BITS: 0 and -0 are two");
        m = Check.with("set v0,d,1;store v0,a0,s0;neg v0,v0;store v0,a0,s0;mov s0,1");
        m.memory(6, 1);
        m.watch(0, 0, true);
        Check.due("-0", m.run(99), -3);
        Check.due("PC", m.count(5), 4);
    }

    private static void watchedByFault() {
        Check.holds("run: FAULTS and -3 as it is done: a FAULT that changed a watched element is a FAULT");
        LaneMachine m = Check.with("set v0,i,2;iota v0,s0;store v0,a0,s1");
        m.memory(3, 1);
        m.scalar(0, 5);
        m.watch(0, 0, true);
        Check.due("run", m.run(9), 4);
        Check.due("element", m.peek(0, 0), 5);
        m.resize(0, 2);
        m.poke(0, 0, 5);
        Check.due("by the STEP it does not change", m.run(9), 0);
        Check.due("other", m.peek(0, 1), 6);
    }

    private static void watchedAtTheEnd() {
        Check.holds("run: -3 (0 if it ended by it, too)");
        LaneMachine m = Check.with("set v0,i,1;iota v0,s0;store v0,a0,s1");
        m.memory(3, 1);
        m.scalar(0, 5);
        m.watch(0, 0, true);
        Check.due("ended by it", m.run(9), 0);
        Check.due("element", m.peek(0, 0), 5);
        m = Check.with("set v0,i,1;iota v0,s0;store v0,a0,s1;end");
        m.memory(3, 1);
        m.scalar(0, 5);
        m.watch(0, 0, true);
        Check.due("one ahead of the end", m.run(9), -3);
        Check.due("end", m.run(9), 0);
    }

    private static void watchedParts() {
        Check.holds("-3: behind it other ones than ahead: not what came and went");
        LaneMachine m = Check.with("set v0,i,2;set v1,i,2;mov s0,5;put v0,0,s0;scatter v0,a0,v1;mov s1,1");
        m.memory(3, 1);
        m.watch(0, 0, true);
        Check.due("5, then 0 as it was", m.run(99), 0);
        m.begin();
        m.poke(0, 0, 1);
        Check.due("5, then 0", m.run(99), -3);
        Check.holds("watch: One that is not there does not change");
        m = new LaneMachine();
        m.memory(3, 1);
        m.watch(0, 1, true);
        Check.program(m, "set v0,i,1;mov s0,5;fill v0,s0;store v0,a0,s7;end");
        Check.due("run", m.run(99), 0);
        m.begin();
        m.resize(0, 2);
        m.scalar(7, 1);
        Check.due("there by now", m.run(99), -3);
    }

    private static void back() {
        Check.holds("back: The latest STEP is TAKEN BACK: its instruction's place; -1 if the list is empty");
        Check.due("a new one", new LaneMachine().back(), -1);
        LaneMachine m = Check.with(LOOP);
        Check.due("begun", m.back(), -1);
        m.run(4);
        int[] want = {0, 2, 1, 0, -1, -1};
        for (int place : want) {
            Check.due("back", m.back(), place);
        }
        Check.due("PC", m.count(5), 0);
        Check.due("STEPS", m.count(1), 0);
    }

    private static void faultStays() {
        Check.holds("fault: Of the FAULT of the latest instruction (it stays till then)");
        LaneMachine m = Check.with("mov s1,1;mov s1,1;a: sdiv s0,s1,s2;mov s3,1;end");
        Check.noFault("begun", m);
        Check.due("run", m.run(9), 5);
        Check.fault("FAULT", m, 5, 2, -1);
        m.run(0);
        m.memory(0, 2);
        m.poke(0, 0, 1);
        m.resize(0, 1);
        m.free(0);
        m.scalar(5, 1);
        m.stop(0, true);
        m.watch(0, 0, true);
        m.keep(0);
        m.check();
        m.back();
        m.restore();
        m.assemble(1);
        Check.assemble(m, "foo");
        Check.fault("it stays", m, 5, 2, -1);
        Check.due("again", m.run(9), 5);
        Check.fault("again", m, 5, 2, -1);
        m.scalar(2, 1);
        Check.fault("it stays", m, 5, 2, -1);
        Check.due("then it is done", m.run(1), -1);
        Check.noFault("the latest one had none", m);
        Check.holds("fault: and nothing was TAKEN BACK or begun since");
        m = Check.with("mov s1,1;sdiv s0,s1,s2");
        m.run(9);
        m.back();
        Check.noFault("TAKEN BACK", m);
        m.run(9);
        m.begin();
        Check.noFault("begun", m);
        m.run(9);
        Check.fault("again", m, 5, 1, -1);
        m.slim();
        Check.noFault("slim", m);
        m.run(9);
        Check.assemble(m, "end");
        Check.noFault("assemble", m);
    }

    private static void faultOfOther() {
        Check.holds("fault: Without one 0, -1, -1; 0 for another what");
        LaneMachine m = Check.with("sdiv s0,s0,s0");
        Check.noFault("without", m);
        for (int k = 0; k < 2; k++) {
            for (int what : new int[] {-1, 3, 4, Integer.MAX_VALUE, Integer.MIN_VALUE}) {
                Check.due("fault(" + what + ")", m.fault(what), 0);
            }
            m.run(1);
        }
    }

    private static void stop() {
        Check.holds("stop: true; false if there is no such instruction, or it was so");
        LaneMachine m = Check.with("end;end");
        for (int i = 0; i < 2; i++) {
            Check.due("was off", m.stop(i, false), false);
            Check.due("on", m.stop(i, true), true);
            Check.due("was on", m.stop(i, true), false);
            Check.due("break points", m.count(8), 1);
            Check.due("off", m.stop(i, false), true);
            Check.due("was off", m.stop(i, false), false);
            Check.due("break points", m.count(8), 0);
        }
        for (int i : new int[] {-1, 2, 99, 100, Integer.MAX_VALUE, Integer.MIN_VALUE}) {
            Check.due("stop(" + i + ", true)", m.stop(i, true), false);
            Check.due("stop(" + i + ", false)", m.stop(i, false), false);
        }
        Check.due("break points", m.count(8), 0);
        Check.due("without a program", new LaneMachine().stop(0, true), false);
        m = Check.with("end;".repeat(100));
        for (int i = 0; i < 100; i++) {
            Check.due("each of 100", m.stop(i, true), true);
        }
        Check.due("no 101st", m.stop(100, true), false);
        Check.due("break points", m.count(8), 100);
    }

    private static void watch() {
        Check.holds("watch: Element i of array m (there or not; m 0 .. 7, i 0 .. 63)");
        LaneMachine m = new LaneMachine();
        for (int a : new int[] {0, 7}) {
            for (int i : new int[] {0, 1, 31, 32, 62, 63}) {
                Check.due("was off", m.watch(a, i, false), false);
                Check.due("on", m.watch(a, i, true), true);
                Check.due("was on", m.watch(a, i, true), false);
            }
        }
        Check.due("watches", m.count(9), 12);
        Check.holds("watch: false if it is none of these, or it was so");
        int[][] none = {{-1, 0}, {8, 0}, {0, -1}, {0, 64}, {0, 65}, {0, 127}, {-1, -1}, {8, 64},
            {Integer.MAX_VALUE, 0}, {0, Integer.MIN_VALUE}};
        for (int[] n : none) {
            Check.due("watch on", m.watch(n[0], n[1], true), false);
            Check.due("watch off", m.watch(n[0], n[1], false), false);
        }
        Check.due("watches", m.count(9), 12);
        Check.due("off", m.watch(7, 63, false), true);
        Check.due("was off", m.watch(7, 63, false), false);
        Check.due("watches", m.count(9), 11);
    }

    private static void watchesStay() {
        Check.holds("watch: watches stay whatever becomes of arrays");
        LaneMachine m = Check.with("set v0,i,1;mov s0,5;fill v0,s0;store v0,a0,s7;end");
        m.watch(0, 0, true);
        m.memory(3, 1);
        m.resize(0, 0);
        m.free(0);
        m.memory(3, 1);
        m.begin();
        m.slim();
        Check.due("watches", m.count(9), 1);
        Check.due("it is watched", m.run(99), -3);
        Check.assemble(m, "end");
        Check.due("watches", m.count(9), 1);
    }

    private static void trace() {
        Check.holds("trace: Of the k-th STEP of the list (0 the latest); -1 if there is none such");
        LaneMachine m = Check.with("set v0,b,5;fill v0,s0;mov s0,1;end");
        Check.due("no STEP", m.trace(0, 0), -1);
        Check.due("no STEP", m.trace(0, 1), -1);
        m.run(9);
        int[] lanes = {0, 0, 5, 5};
        for (int k = 0; k < 4; k++) {
            Check.due("place", m.trace(k, 0), 3 - k);
            Check.due("LANES DONE", m.trace(k, 1), lanes[k]);
            Check.due("what -1", m.trace(k, -1), -1);
            Check.due("what 2", m.trace(k, 2), -1);
        }
        for (int k : new int[] {-1, 4, 63, 64, 65, Integer.MAX_VALUE, Integer.MIN_VALUE}) {
            Check.due("trace(" + k + ", 0)", m.trace(k, 0), -1);
            Check.due("trace(" + k + ", 1)", m.trace(k, 1), -1);
        }
        m.back();
        Check.due("the latest one", m.trace(0, 0), 2);
        Check.due("none such", m.trace(3, 0), -1);
        m = Check.with(LOOP);
        m.run(100);
        Check.due("the 64th", m.trace(63, 0), 0);
        Check.due("the 65th", m.trace(64, 0), -1);
    }
}
