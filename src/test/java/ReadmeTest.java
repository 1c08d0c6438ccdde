/** The example of README.md, line by line. */
public final class ReadmeTest {
    public static void main(String[] args) {
        Check.holds("README.md: Use");
        LaneMachine machine = new LaneMachine();
        byte[] text = "set v0,i,4\niota v0,s0\nsum s1,v0\nend\n    ".getBytes();
        Check.due("bytes", text.length, 40);
        for (int at = 0; at < text.length; at += 20) {
            java.nio.ByteBuffer in = java.nio.ByteBuffer.wrap(text, at, 20);
            machine.feed(in.getInt(), in.getInt(), in.getInt(), in.getInt(), in.getInt());
        }
        Check.due("assemble", machine.assemble(40), 4);
        Check.due("check", machine.check(), 0);
        Check.due("run", machine.run(100), 0);
        Check.due("scalarOf", machine.scalarOf(1), 6);
        Check.due("back", machine.back(), 3);
        Check.finish();
    }
}
