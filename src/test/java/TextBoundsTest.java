/** "Terms", THE TEXT: a test for each sentence that names a boundary. */
public final class TextBoundsTest {
    public static void main(String[] args) {
        tape();
        bytesOfText();
        words();
        numbers();
        signs();
        ends();
        blanks();
        badBytes();
        lines();
        instructions();
        masked();
        numbered();
        kinds();
        digits();
        bounds();
        places();
        labelFaults();
        manyLabels();
        manyInstructions();
        firstOfMany();
        leads();
        whereLabelsLead();
        Check.finish();
    }

    /** How many instructions a text has; a new machine reads it, and its tape is empty then. */
    private static LaneMachine right(String text, int instructions) {
        LaneMachine m = new LaneMachine();
        Check.due("assemble of <" + text + ">", Check.assemble(m, text), instructions);
        Check.due("instructions of <" + text + ">", m.count(0), Math.max(instructions, 0));
        Check.due("tape behind <" + text + ">", m.count(11), 0);
        return m;
    }

    private static void wrong(String text, int place) {
        right(text, -1 - place);
    }

    private static void tape() {
        Check.holds("The TAPE takes bytes, 4000 at most");
        LaneMachine m = new LaneMachine();
        for (int k = 0; k < 199; k++) {
            m.feed(0x20202020, 0x20202020, 0x20202020, 0x20202020, 0x20202020);
        }
        Check.due("3980", m.count(11), 3980);
        Check.due("4000", m.feed(0x656e640a, 0x0a0a0a0a, 0x0a0a0a0a, 0x0a0a0a0a, 0x0a656e64), true);
        Check.due("4000", m.count(11), 4000);
        Check.due("4020", m.feed(0, 0, 0, 0, 0), false);
        Check.due("none came", m.count(11), 4000);
        Check.due("all of them", m.assemble(4000), 2);
        Check.due("there is room again", m.feed(0, 0, 0, 0, 0), true);
    }

    private static void bytesOfText() {
        Check.holds("A TEXT has bytes 10 and 32 .. 126");
        for (int b = 0; b < 256; b++) {
            String text = "mov s0,5" + (char) b;
            if (b >= '0' && b <= '9' || b == 10 || b == 32 || b == ';') {
                right(text, 1);
            } else {
                wrong(text, 8);
            }
        }
    }

    private static void words() {
        Check.holds("a WORD (a .. z, then a .. z and 0 .. 9, as many as there are)");
        for (int b = 0; b < 256; b++) {
            boolean letter = b >= 'a' && b <= 'z';
            if (b == 32 || b == 10) {
                right((char) b + ":", -1 - 1);
            } else if (b == ';') {
                right(";:", 0);
            } else if (letter) {
                Check.due("labels of " + (char) b, right((char) b + ":", 0).count(10), 1);
            } else {
                wrong((char) b + ":", 0);
            }
            if (letter || b >= '0' && b <= '9') {
                right("x" + (char) b + "y:", 0);
            } else if (b == ':') {
                wrong("x:y:", 2);
            } else {
                wrong("x" + (char) b + "y:", 0);
            }
        }
        right("abcdefghijkl:", 0);
        right("mnopqrstuvwx:", 0);
        right("y0123456789z:", 0);
        wrong("endend", 0);
        wrong("0end", 0);
        wrong("end0", 0);
    }

    private static void numbers() {
        Check.holds("a NUMBER (perhaps -, then digits 0 .. 9, as many as there are)");
        Check.due("all digits", right("mov s0,1234567890", 1).code(0, 2), 1234567890);
        Check.due("all digits, below 0", right("mov s0,-9876543210", 1).code(0, 2), -9876543210L);
        Check.due("0", right("mov s0,0", 1).code(0, 2), 0);
        Check.due("-0", right("mov s0,-0", 1).code(0, 2), 0);
        wrong("mov s0,--1", 7);
        wrong("mov s0,1-", 8);
        wrong("mov s0,1-1", 8);
        wrong("mov s0,+1", 7);
        wrong("mov s0,1.0", 8);
        wrong("mov s0,1/", 8);
        wrong("mov s0,1:", 8);
        wrong("mov s0,0x1", 8);
    }

    private static void signs() {
        Check.holds("TOKENS: the signs , : ?");
        right("a:add v0,v1,v2?m0", 1);
        for (String sign : new String[] {",", ":", "?"}) {
            wrong(sign, 0);
            wrong("end" + sign, sign.equals(":") ? -1 : 3);
            wrong("end " + sign + " end", sign.equals(":") ? -2 : 4);
            wrong("mov s0" + sign + "1", sign.equals(",") ? -2 : 6);
            wrong("add v0,v1,v2" + sign + "m0", sign.equals("?") ? -2 : 12);
        }
    }

    private static void ends() {
        Check.holds("END: a byte 10, the text's end, or a ; with all up to the next byte 10 or the text's end");
        right("", 0);
        right("\n", 0);
        right(";", 0);
        right("end", 1);
        right("end\n", 1);
        right("end;", 1);
        right("end;\n", 1);
        right("end\nend", 2);
        right("end;end", 1);
        right("end;end\nend", 2);
        right("end;;\n;\n\nend;end;end", 2);
        right("\n\n\n", 0);
        Check.holds("END: whatever it is (there any byte)");
        for (int b = 0; b < 256; b++) {
            right("end;" + (char) b + "end", b == 10 ? 2 : 1);
            right(";" + (char) b, 0);
        }
    }

    private static void blanks() {
        Check.holds("Blanks (32) stand between as one likes");
        right(" ", 0);
        right("                                        ", 0);
        right("   a   :   add   v0   ,   v1   ,   v2   ?   m3   ;   ", 1);
        right("a:add v0,v1,v2?m3;", 1);
        right("set v0,b,1", 1);
        wrong("setv0,b,1", 0);
        wrong("set v 0,b,1", 4);
        wrong("mov s0,1 2", 9);
        wrong("mov s0,- 2", 7);
        wrong("e nd", 0);
        wrong("end end", 4);
        right("end ", 1);
    }

    private static void badBytes() {
        Check.holds("What begins none of these (a - without a digit behind it, too) is a BAD byte");
        String[] bads = {"-", "- ", "-x", "-;", "-\n", "--", "A", "_", "!", "\t", "\r", "\0", "~", "\u00ff"};
        for (String bad : bads) {
            wrong(bad, 0);
            wrong("end" + bad, 3);
            wrong("mov s0," + bad, 7);
            wrong("a:" + bad, 2);
            wrong("a" + bad, 0);
        }
        Check.holds("A BAD byte counts as it is come to");
        wrong("foo !", 0);
        wrong("foo!", 0);
        wrong("mov s0,5 6 !", 9);
        wrong("mov s0,5 ! 6", 9);
        wrong("add v8,!", 4);
        wrong("add v7,!", 7);
        wrong("end\nfoo\n!", 4);
        wrong("end\n!\nfoo", 4);
        wrong("jmp nowhere\n!", 12);
        right("end ; !", 1);
    }

    private static void lines() {
        Check.holds("A LINE: perhaps a LABEL (a WORD and :), then perhaps an INSTRUCTION, then END");
        right("a:", 0);
        right("a: end", 1);
        right("end", 1);
        right("a:;end", 0);
        right("a:\nb:\nend", 1);
        wrong("a: b:", 3);
        wrong("a: b: end", 3);
        wrong("a: end end", 7);
        wrong("a: end:", 6);
        wrong("a::", 2);
        wrong("a: :", 3);
        wrong(":", 0);
        wrong("1: end", 0);
        wrong("a\n:", 0);
        wrong("end,", 3);
        wrong("a,b", 0);
        wrong("a: 5", 3);
        wrong("a: ,", 3);
        wrong("a: ?", 3);
        right("end: end", 1);
        right("m0: end", 1);
    }

    private static void instructions() {
        Check.holds("An INSTRUCTION: its WORD, its OPERANDS with , between");
        wrong("mand", 4);
        wrong("mand m0", 7);
        wrong("mand m0,", 8);
        wrong("mand m0,m1", 10);
        wrong("mand m0,m1,", 11);
        right("mand m0,m1,m2", 1);
        wrong("mand m0,m1,m2,", 13);
        wrong("mand m0,m1,m2,m3", 13);
        wrong("mand,m0,m1,m2", 4);
        wrong("mand m0 m1,m2", 8);
        wrong("mand m0,,m2", 8);
        wrong("mand m0;,m1,m2", 7);
        wrong("mand m0,\nm1,m2", 8);
        wrong("mand\nm0,m1,m2", 4);
        wrong("ret,", 3);
        wrong("ret m0", 4);
        wrong("sel v0,m0,v1", 12);
        right("sel v0,m0,v1,v2", 1);
        wrong("sel v0,m0,v1,v2,v3", 15);
    }

    private static void masked() {
        Check.holds("where the table says so, perhaps ? and a mask");
        for (int k = 0; k < 4; k++) {
            Check.due("mask", right("neg v0,v1?m" + k, 1).code(0, 5), k);
        }
        Check.due("none", right("neg v0,v1", 1).code(0, 5), -1);
        wrong("neg v0,v1?", 10);
        wrong("neg v0,v1?;", 10);
        wrong("neg v0,v1?m4", 10);
        wrong("neg v0,v1?v0", 10);
        wrong("neg v0,v1?0", 10);
        wrong("neg v0,v1?m", 10);
        wrong("neg v0,v1?m00", 10);
        wrong("neg v0,v1??m0", 10);
        wrong("neg v0,v1?m0?m0", 12);
        wrong("neg v0,v1?m0,", 12);
        wrong("neg v0,v1,?m0", 9);
        wrong("neg v0?m0,v1", 6);
        wrong("neg ?m0,v0,v1", 4);
        for (int op = 0; op < 68; op++) {
            String line = "l:" + Bench.line(op);
            LaneMachine m = right(line, 1);
            Check.due(line, m.code(0, 0), op);
            Check.due(line + " has no mask", m.code(0, 5), -1);
            right(line + "?m2", Model.OPERANDS[op].endsWith("?") ? 1 : -1 - line.length());
        }
    }

    private static void numbered() {
        Check.holds("V v0 .. v7, M m0 .. m3, S s0 .. s7, A a0 .. a7 (WORDS)");
        for (int k = 0; k < 8; k++) {
            LaneMachine m = right("load v" + k + ",a" + k + ",s" + k, 1);
            for (int what = 1; what <= 3; what++) {
                Check.due("operand", m.code(0, what), k);
            }
        }
        for (int k = 0; k < 4; k++) {
            Check.due("mask", right("mnot m" + k + ",m0", 1).code(0, 1), k);
        }
        for (String none : new String[] {"v8", "v9", "v", "v00", "v0a", "va", "m0", "s0", "a0", "x0", "0", "b"}) {
            wrong("rev v1," + none, 7);
            wrong("rev " + none + ",v1", 4);
        }
        for (String none : new String[] {"m4", "m9", "m", "m00", "v0", "s0", "0"}) {
            wrong("mnot m0," + none, 8);
        }
        for (String none : new String[] {"s8", "s9", "s", "s00", "v0", "m0", "a0", "0"}) {
            wrong("sadd s0,s1," + none, 11);
        }
        for (String none : new String[] {"a8", "a9", "a", "a00", "v0", "s0", "0"}) {
            wrong("load v0," + none + ",s0", 8);
        }
    }

    private static void kinds() {
        Check.holds("K a kind (the WORD b h c i l f d for 0 .. 6)");
        for (int kind = 0; kind < 7; kind++) {
            Check.due("kind", right("set v0," + "bhcilfd".charAt(kind) + ",1", 1).code(0, 2), kind);
        }
        for (String none : new String[] {"a", "e", "g", "s", "z", "bh", "b0", "byte", "0", "6", "v0", "B"}) {
            wrong("set v0," + none + ",1", 7);
        }
    }

    private static void digits() {
        Check.holds("N a NUMBER (18 digits at most; noughts ahead count)");
        Check.due("18", right("mov s0,999999999999999999", 1).code(0, 2), 999999999999999999L);
        Check.due("-18", right("mov s0,-999999999999999999", 1).code(0, 2), -999999999999999999L);
        wrong("mov s0,1000000000000000000", 7);
        wrong("mov s0,-1000000000000000000", 7);
        Check.due("noughts", right("mov s0,000000000000000007", 1).code(0, 2), 7);
        Check.due("noughts", right("mov s0,-000000000000000007", 1).code(0, 2), -7);
        wrong("mov s0,0000000000000000007", 7);
        wrong("mov s0,-0000000000000000007", 7);
        wrong("mov s0,0000000000000000000", 7);
        wrong("mov s0,99999999999999999999999999999999999999999999", 7);
        wrong("set v0,b,0000000000000000001", 9);
        wrong("mset m0,0000000000000000001", 8);
        // Digits of which the long's last 64 bits would be a small number.
        wrong("set v0,b,18446744073709551617", 9);
        wrong("mov s0,-9223372036854775808", 7);
    }

    private static void bounds() {
        Check.holds("NUMBERS: of set 1 .. 32");
        Check.due("1", right("set v0,b,1", 1).code(0, 3), 1);
        Check.due("32", right("set v0,b,32", 1).code(0, 3), 32);
        wrong("set v0,b,0", 9);
        wrong("set v0,b,-0", 9);
        wrong("set v0,b,33", 9);
        wrong("set v0,b,-1", 9);
        wrong("set v0,b,4294967297", 9);
        Check.holds("NUMBERS: of get and put 0 .. 31");
        Check.due("0", right("get s0,v0,0", 1).code(0, 3), 0);
        Check.due("31", right("get s0,v0,31", 1).code(0, 3), 31);
        Check.due("0", right("put v0,0,s0", 1).code(0, 2), 0);
        Check.due("31", right("put v0,31,s0", 1).code(0, 2), 31);
        for (String none : new String[] {"-1", "32", "4294967296", "99999999999999999"}) {
            wrong("get s0,v0," + none, 10);
            wrong("put v0," + none + ",s0", 7);
        }
        Check.holds("NUMBERS: of mset 0 .. 4294967295");
        Check.due("0", right("mset m0,0", 1).code(0, 2), 0);
        Check.due("most", right("mset m0,4294967295", 1).code(0, 2), 4294967295L);
        wrong("mset m0,4294967296", 8);
        wrong("mset m0,-1", 8);
        Check.holds("NUMBERS: of mov any");
        right("mov s0,-1", 1);
        right("mov s0,4294967296", 1);
    }

    private static void places() {
        Check.holds("the place: of a token its first byte; of END its first byte, or the text's size");
        wrong("  foo", 2);
        wrong("add  v0 ,  v88", 11);
        wrong("mov s0,  -1234567890123456789", 9);
        wrong("add v0", 6);
        wrong("add v0  ", 8);
        wrong("add v0\n", 6);
        wrong("add v0  \n", 8);
        wrong("add v0 ; comment", 7);
        wrong("add v0 ; comment\n", 7);
        wrong("end\nend\n  add v0", 16);
        Check.holds("a FAULT of a text: what can't stand there; a WORD that is none such");
        wrong("addd v0,v1,v2", 0);
        wrong("ad v0,v1,v2", 0);
        wrong("jmp 5", 4);
        wrong("jmp ,", 4);
        wrong("jmp", 3);
        wrong("set v0,5,1", 7);
        wrong("set v0,b,b", 9);
        wrong("mov s0,s1", 7);
        wrong("sadd s0,s1,5", 11);
    }

    private static void labelFaults() {
        Check.holds("a LABEL of more than 12 bytes");
        right("abcdefghijkl: end", 1);
        wrong("abcdefghijklm: end", 0);
        wrong("end\n abcdefghijklm : end", 5);
        wrong("abcdefghijklmabcdefghijklm:", 0);
        Check.holds("a LABEL that is there already");
        wrong("a:\na:", 3);
        wrong("a: end\nb: end\n  a: end", 16);
        wrong("abcdefghijkl:\nabcdefghijkl:", 14);
        right("abcdefghijkl:\nabcdefghijk:\nabcdefghijkm:\na:\nab:", 0);
        Check.holds("An L of more than 12 bytes is one, too");
        wrong("jmp abcdefghijklm", 4);
        wrong("jmp abcdefghijklm\n!", 4);
        wrong("jeq s0,s1,abcdefghijklm", 10);
        wrong("loop s0,abcdefghijklm", 8);
        wrong("call abcdefghijklm", 5);
        right("jmp abcdefghijkl\nabcdefghijkl:", 1);
    }

    private static void manyLabels() {
        Check.holds("the 41st LABEL");
        StringBuilder labels = new StringBuilder();
        for (int k = 1; k <= 40; k++) {
            labels.append('l').append(k).append(k % 2 == 0 ? ": " : ":\n").append(k % 2 == 0 ? "end\n" : "");
        }
        Check.due("40", right(labels.toString(), 20).count(10), 40);
        wrong(labels + "l41:", labels.length());
        wrong(labels + "  l41: end", labels.length() + 2);
        wrong(labels + "l40:", labels.length());
        right(labels + "jmp l40", 21);
        wrong(labels + "jmp l41", labels.length() + 4);
    }

    private static void manyInstructions() {
        Check.holds("the 101st instruction (at its WORD)");
        StringBuilder ends = new StringBuilder();
        for (int k = 0; k < 100; k++) {
            ends.append(k % 2 == 0 ? "end\n" : "ret;\n");
        }
        right(ends.toString(), 100);
        right(ends + "\n ; more\nl:", 100);
        wrong(ends + "end", ends.length());
        wrong(ends + "l:  end", ends.length() + 4);
        wrong(ends + "mov s0,", ends.length());
        wrong(ends + "foo", ends.length());
        LaneMachine m = right(ends + "l:", 100);
        Check.due("the last one", m.code(99, 0), 66);
        Check.throwsIndex("no 101st", () -> m.code(100, 0));
    }

    private static void firstOfMany() {
        Check.holds("the place of the first of these that one meets from left to right");
        wrong("abcdefghijklm: foo !", 0);
        wrong("a: foo\na: end", 3);
        wrong("a: end\na: foo", 7);
        wrong("set v8,x,0", 4);
        wrong("set v7,x,0", 7);
        wrong("set v7,b,0", 9);
        wrong("get s8,v9,99", 4);
        wrong("mov s0,5 6\nfoo", 9);
        wrong("add v0,v1,v2 ?m9 ?", 14);
    }

    private static void leads() {
        Check.holds("Then, if there was none: the first L (from left to right) that is no LABEL");
        wrong("jmp a", 4);
        wrong("jmp a\njmp b", 4);
        wrong("b: jmp b\njmp a\njmp c", 13);
        wrong("jmp a\nloop s0,c\njeq s0,s1,d\na:", 14);
        wrong("a: jeq s0,s1,c\njne s0,s1,a", 13);
        wrong("call c\nc1: end", 5);
        wrong("call c1\nc: end", 5);
        wrong("call abcdefghijkl\nabcdefghijk:", 5);
        wrong("call abcdefghijk\nabcdefghijkl:", 5);
        Check.holds("only if there was none of the others");
        wrong("jmp a\nfoo", 6);
        wrong("jmp a\nmov s0,5 !", 15);
        wrong("jmp a\nb:\nb:", 9);
        wrong("jmp a\nmov", 9);
    }

    private static void whereLabelsLead() {
        Check.holds("A LABEL is for the instruction that comes next, also in a later line (perhaps none: the end)");
        LaneMachine m = right("a: jmp a\nb:\n\n ; none\nc: jmp b\njmp c\njmp d\njmp e\nd: end\njmp f\ne:;\nf:", 7);
        int[] want = {0, 1, 1, 5, 7, -1, 7};
        for (int i = 0; i < 7; i++) {
            Check.due("L of " + i, m.code(i, 1), want[i]);
        }
        Check.due("LABELS", m.count(10), 6);
        m = right("jmp e\ne:", 1);
        Check.due("the end", m.code(0, 1), 1);
        Check.due("it leads to the end", m.run(1), 0);
        Check.due("PC", m.count(5), 1);
        m = right("jmp add\nadd: call v0\nv0: loop s0,b\nb: end", 4);
        Check.due("any WORD", m.code(0, 1), 1);
        Check.due("any WORD", m.code(1, 1), 2);
        Check.due("any WORD", m.code(2, 2), 3);
    }
}
