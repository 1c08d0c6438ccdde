/** Promises 2 feed, 3 assemble, 4 code. */
public final class TextTest {
    /** The one that read the latest text. */
    private static LaneMachine machine;

    public static void main(String[] args) {
        feed();
        assembleAnswers();
        tokens();
        faultsOfLines();
        faultsOfOperands();
        labels();
        limits();
        code();
        everyInstruction();
        Check.finish();
    }

    /** What a new machine answers to the text: how many instructions, or -1 less the place of its FAULT. */
    private static void text(String text, int want) {
        machine = new LaneMachine();
        Check.due("assemble of <" + text + ">", Check.assemble(machine, text), want);
        Check.due("tape behind <" + text + ">", machine.count(11), 0);
    }

    private static void wrong(String text, int place) {
        text(text, -1 - place);
        Check.due("instructions behind <" + text + ">", machine.count(0), 0);
    }

    private static void feed() {
        LaneMachine m = new LaneMachine();
        for (int k = 1; k <= 200; k++) {
            Check.due("feed " + k, m.feed(0, 0, 0, 0, 0), true);
            Check.due("bytes", m.count(11), 20 * k);
        }
        Check.due("feed without room", m.feed(0, 0, 0, 0, 0), false);
        Check.due("bytes", m.count(11), 4000);
        Check.due("assemble", m.assemble(4000), -1);
        // "end" and bytes with the highest bit in a comment: the highest byte of a number comes first.
        Check.due("feed", m.feed(0x656e643b, 0x80ff00c3, 0x0a656e64, 0x0a20200a, 0x40404040), true);
        Check.due("assemble", m.assemble(16), 2);
        // Room for 19 bytes is not enough: n is smaller than the tape, but the tape is empty then.
        Check.due("bytes", m.count(11), 0);
    }

    private static void assembleAnswers() {
        LaneMachine m = new LaneMachine();
        Check.due("nothing", m.assemble(0), 0);
        Check.due("too much", m.assemble(1), -5000);
        Check.feed(m, "end\nend\nend\nend\nend\n");
        Check.due("too much", m.assemble(21), -5000);
        Check.due("too little", m.assemble(-1), -5000);
        Check.due("bytes stay", m.count(11), 20);
        Check.due("the first bytes", m.assemble(11), 3);
        Check.due("the tape is empty", m.count(11), 0);
        Check.due("nothing is there", m.assemble(11), -5000);
        Check.due("program stays", m.count(0), 3);

        m = Check.with("a: mov s0,5;mov s1,6;b: end");
        m.stop(2, true);
        m.run(2);
        Check.due("a text with a FAULT", Check.assemble(m, "set v0,b,1\nx: y: end\n"), -1 - 14);
        Check.due("labels stay", m.count(10), 2);
        Check.due("break points stay", m.count(8), 1);
        Check.due("steps stay", m.count(1), 2);
        Check.due("the list stays", m.count(4), 2);
        Check.due("PC stays", m.count(5), 2);
        Check.due("another program", Check.assemble(m, "x: set v0,b,1"), 1);
        Check.due("labels", m.count(10), 1);
        Check.due("no break points", m.count(8), 0);
        Check.due("no steps", m.count(1), 0);
        Check.due("an empty list", m.count(4), 0);
        Check.due("PC", m.count(5), 0);
        Check.due("scalars stay", m.scalarOf(1), 6);
        Check.due("no program at all", Check.assemble(m, ""), 0);
        Check.due("it has ended", m.count(7), 1);
    }

    private static void tokens() {
        text("end", 1);
        text("  end  ;", 1);
        text("\n\n end\n\nend", 2);
        text("set   v0 ,b , 1", 1);
        text("add v0,v1,v2?m1", 1);
        text("add v0,v1,v2 ? m1 ; why?", 1);
        text("mov s0,-5", 1);
        text("mov s0,-000000000000000005", 1);
        text("; \t\u0001\u00ff anything\nend", 1);
        text("; to the end", 0);
        text("a:end\nb :\nc :end", 2);
        text("set v0,b,32;", 1);
        wrong("\t", 0);
        wrong("end\r\n", 3);
        wrong("end \u00e9", 4);
        wrong("End", 0);
        wrong("mov s0,- 5", 7);
        wrong("mov s0,--5", 7);
        wrong("mov s0,5-3", 8);
        wrong("mov s0,5 3", 9);
        wrong("mov s0,3x", 8);
        wrong("mov s0,-", 7);
        wrong("end\u0000", 3);
        wrong("a.b: end", 0);
    }

    private static void faultsOfLines() {
        wrong("foo", 0);
        wrong("  foo bar", 2);
        wrong("foo@", 0);
        wrong(": end", 0);
        wrong("5", 0);
        wrong("a: b: end", 3);
        wrong("a: add: end", 6);
        wrong("a: 7", 3);
        wrong("end end", 4);
        wrong("end,", 3);
        wrong("ret s0", 4);
        wrong("endx", 0);
        wrong("setv0,b,1", 0);
        wrong("end\nend\nfoo", 8);
        wrong("mov s0,5 ? m0", 9);
        wrong("sel v0,m0,v1,v2 ?m0", 16);
    }

    private static void faultsOfOperands() {
        wrong("add", 3);
        wrong("add ", 4);
        wrong("add\nend", 3);
        wrong("add ;\nend", 4);
        wrong("add v0", 6);
        wrong("add v0 v1,v2", 7);
        wrong("add v0,,v1,v2", 7);
        wrong("add v0,v1", 9);
        wrong("add v0,v1,", 10);
        wrong("add v0,v1,v2,v3", 12);
        wrong("add v8,v1,v2", 4);
        wrong("add v0,m1,v2", 7);
        wrong("add v0,v1,v22", 10);
        wrong("add v0,v1,2", 10);
        wrong("add v0,v1,v2 ?", 14);
        wrong("add v0,v1,v2 ? v1", 15);
        wrong("add v0,v1,v2 ? m4", 15);
        wrong("add v0,v1,v2 ? m3 m3", 18);
        wrong("mand m0,m1,m4", 11);
        wrong("mov s8,1", 4);
        wrong("load v0,a8,s0", 8);
        wrong("set v0,x,1", 7);
        wrong("set v0,bb,1", 7);
        wrong("set v0,1,1", 7);
        wrong("set v0,b,0", 9);
        wrong("set v0,b,33", 9);
        wrong("set v0,b,-1", 9);
        wrong("set v0,b,b", 9);
        wrong("get s0,v0,32", 10);
        wrong("get s0,v0,-1", 10);
        wrong("put v0,32,s0", 7);
        wrong("mset m0,4294967296", 8);
        wrong("mset m0,-1", 8);
        wrong("mov s0,1000000000000000000", 7);
        wrong("mov s0,0000000000000000001", 7);
        wrong("mov s0,-1000000000000000000", 7);
        text("get s0,v0,-0", 1);
        text("get s0,v0,31", 1);
        text("put v0,0,s0", 1);
        text("mset m0,4294967295", 1);
        text("mov s0,999999999999999999", 1);
        text("mov s0,-999999999999999999", 1);
        text("set v0,d,000000000000000032", 1);
    }

    private static void labels() {
        text("abcdefghij12: end", 1);
        wrong("abcdefghij123: end", 0);
        wrong("end\n abcdefghij123: end", 5);
        wrong("jmp abcdefghij123\nfoo", 4);
        wrong("a: end\na: end", 7);
        wrong("a: end\nb: a :", 10);
        wrong("jmp 5", 4);
        wrong("jmp v0:", 6);
        text("jmp v0\nv0:", 1);
        text("jmp abcdefghij12\nabcdefghij12:", 1);
        wrong("jmp abcdefghij12\nabcdefghij1:", 4);
        wrong("jmp abcdefghij12\nabcdefghij13:", 4);
        text("add: jmp add", 1);
        wrong("jmp nowhere\njmp a", 4);
        wrong("a: jmp a\njmp b\njmp c", 13);
        // The L that is no LABEL counts only behind all the others.
        wrong("jmp nowhere\nfoo", 12);
        wrong("jmp a\nab: end", 4);
        wrong("jmp ab\na: end", 4);
        text("jmp e\n end\n e: \n f: ; none\n", 2);
        Check.due("labels", machine.count(10), 2);
        Check.due("to the end", machine.code(0, 1), 2);
    }

    private static void limits() {
        StringBuilder labels = new StringBuilder();
        for (int k = 0; k < 40; k++) {
            labels.append('l').append(k).append(":\n");
        }
        text(labels.toString(), 0);
        Check.due("labels", machine.count(10), 40);
        wrong(labels + "l39:", labels.length());
        wrong(labels + " l40: end", labels.length() + 1);
        wrong(labels + " l40 end", labels.length() + 1);
        StringBuilder ends = new StringBuilder();
        for (int k = 0; k < 100; k++) {
            ends.append("end\n");
        }
        text(ends + "l: ; none", 100);
        wrong(ends + "l: end", ends.length() + 3);
        wrong(ends + "foo", ends.length());
        StringBuilder full = new StringBuilder("end;");
        while (full.length() < 4000) {
            full.append((char) 200);
        }
        text(full.toString(), 1);
    }

    private static void code() {
        machine = new LaneMachine();
        Check.throwsIndex("code(0, 0)", () -> machine.code(0, 0));
        Check.program(machine, "a: sel v1,m2,v3,v4;add v5,v6,v7 ?m3;set v0,d,32;jeq s1,s2,a;mov s7,-1;ret;jmp b;b:");
        long[][] want = {{23, 1, 2, 3, 4, -1}, {1, 5, 6, 7, -1, 3}, {0, 0, 6, 32, -1, -1}, {60, 1, 2, 0, -1, -1},
            {53, 7, -1, -1, -1, -1}, {66, -1, -1, -1, -1, -1}, {59, 7, -1, -1, -1, -1}};
        for (int i = 0; i < want.length; i++) {
            for (int what = 0; what < 6; what++) {
                Check.due("code(" + i + ", " + what + ")", machine.code(i, what), want[i][what]);
            }
        }
        Check.throwsIndex("code(-1, 0)", () -> machine.code(-1, 0));
        Check.throwsIndex("code(7, 0)", () -> machine.code(7, 0));
        Check.throwsIndex("code(0, 6)", () -> machine.code(0, 6));
        Check.throwsIndex("code(0, -1)", () -> machine.code(0, -1));
        Check.throwsIndex("code at the least", () -> machine.code(Integer.MIN_VALUE, Integer.MIN_VALUE));
        text("mset m3,4294967295", 1);
        Check.due("N as it is", machine.code(0, 2), 4294967295L);
        String kinds = "bhcilfd";
        for (int k = 0; k < 7; k++) {
            text("set v1," + kinds.charAt(k) + ",7", 1);
            Check.due("K", machine.code(0, 2), k);
        }
    }

    /** Each instruction as the document has it, with ? where it may be and without. */
    private static void everyInstruction() {
        String table = "set V K N/add V x y ?/sub V x y ?/mul V x y ?/div V x y ?/rem V x y ?/min V x y ?/max V x y ?/"
                + "and V x y ?/or V x y ?/xor V x y ?/shl V x s ?/shr V x s ?/ush V x s ?/neg V x ?/abs V x ?/"
                + "sqrt V x ?/eq M x y ?/ne M x y ?/lt M x y ?/le M x y ?/gt M x y ?/ge M x y ?/sel V M x y/"
                + "cast V x ?/sat V x ?/gather V A x ?/scatter V A x ?/load V A s ?/store V A s ?/fill V s ?/"
                + "iota V s ?/pack V M x/spread V M x/shuf V x y ?/rot V x s ?/rev V x ?/zip V x y ?/sort V x/"
                + "scan V x ?/half V x/sum s x ?/least s x ?/most s x ?/get s V N/put V N s/mand M M M/mor M M M/"
                + "mxor M M M/mnot M M/mset M N/mcount s M/mfirst s M/mov s N/sadd s s s/ssub s s s/smul s s s/"
                + "sdiv s s s/srem s s s/jmp L/jeq s s L/jne s s L/jlt s s L/jle s s L/loop s L/call L/ret/end";
        String[] rows = table.split("/");
        Check.due("instructions", rows.length, 68);
        for (int number = 0; number < rows.length; number++) {
            String[] parts = rows[number].split(" ");
            StringBuilder text = new StringBuilder("l: ").append(parts[0]);
            boolean masked = parts[parts.length - 1].equals("?");
            int many = parts.length - (masked ? 2 : 1);
            for (int k = 1; k <= many; k++) {
                text.append(k == 1 ? " " : ",").append(operand(parts[k], k));
            }
            text(text.toString(), 1);
            Check.due(text + " number", machine.code(0, 0), number);
            for (int k = 1; k <= 4; k++) {
                long want = k > many ? -1 : parts[k].equals("K") ? 5 : parts[k].equals("L") ? 0
                        : parts[k].equals("N") ? 3 : k % 4;
                Check.due(text + " operand " + k, machine.code(0, k), want);
            }
            Check.due(text + " mask", machine.code(0, 5), -1);
            int place = text.length() + 1;
            text(text + " ?m2", masked ? 1 : -1 - place);
            if (masked) {
                Check.due(text + " mask", machine.code(0, 5), 2);
            }
            wrong(text + " v0", place);
        }
    }

    private static String operand(String letter, int k) {
        switch (letter) {
            case "K":
                return "f";
            case "N":
                return "3";
            case "L":
                return "l";
            case "M":
                return "m" + k % 4;
            case "A":
                return "a" + k % 4;
            case "s":
                return "s" + k % 4;
            default:
                return "v" + k % 4;
        }
    }
}
