/** Promise 1: a new object. */
public final class NewObjectTest {
    public static void main(String[] args) {
        LaneMachine m = new LaneMachine();
        for (int what = 0; what <= 11; what++) {
            Check.due("count(" + what + ")", m.count(what), what == 7 ? 1 : 0);
        }
        for (int i = 0; i < 8; i++) {
            Check.due("register kind", m.register(i, 0), -1);
            Check.due("register length", m.register(i, 1), 0);
            Check.due("array kind", m.array(i, 0), -1);
            Check.due("array length", m.array(i, 1), 0);
            Check.due("scalarOf", m.scalarOf(i), 0);
        }
        for (int i = 0; i < 4; i++) {
            Check.due("mask", m.mask(i), 0);
            Check.due("nothing was kept", m.differs(i, -1), -1);
        }
        Check.due("run", m.run(10), 0);
        Check.due("back", m.back(), -1);
        Check.due("fault", m.fault(0), 0);
        Check.due("check", m.check(), 0);
        Check.due("slim", m.slim(), 0);
        Check.due("restore", m.restore(), false);
        Check.finish();
    }
}
